set_option maxHeartbeats 4000000 in
set_option maxRecDepth 100000 in
theorem w_X7_readsTurns_p6  : ∀ (n : Nat) (x1 : Int32) (I : Nat → Int32) (A : Nat → Nat → Int32) (L : Nat → Int64) (t : (Int32 × gS)), f_X7_readsTurns_p6 n x1 I A L = some t → Ev 70 RX7 cX7_readsTurns 2 (some .int) 2 6 [some (.ref 59), some (.int x1)] [] I A L (some (.int t.1), t.2) := by
  intro n
  induction n with
  | zero =>
    intro x1 I A L t h
    cases h
  | succ n ih =>
    intro x1 I A L t h
    rw [f_X7_readsTurns_p6] at h
    refine e_aload_n (pc' := 7) (i := 0) rfl rfl dX7_readsTurns_6 rfl ?_
    refine e_aload_n (pc' := 8) (i := 0) rfl rfl dX7_readsTurns_7 rfl ?_
    refine e_getI (a := 59) (n := 951) (k0 := 7) (pc' := 11) dX7_readsTurns_8 rfl rfl (Nat.le_of_ble_eq_true rfl) (Nat.le_of_ble_eq_true rfl) rfl mw_801 rfl ?_
    obtain ⟨v2, hF1, h⟩ := g_bd_e h
    refine e_callV_i (pc' := 14) dX7_readsTurns_11 rfl mw_1080 mv_X7_byteAt rfl (Nat.le_of_ble_eq_true rfl) (Nat.le_of_ble_eq_true rfl) rfl (Nat.le_of_ble_eq_true rfl) (Nat.le_of_ble_eq_true rfl) rfl (c_X7_byteAt _ hF1) rfl ?_
    refine e_bipush (v := 48) (pc' := 16) (by decide) dX7_readsTurns_14 rfl ?_
    refine e_bipush (v := 53) (pc' := 18) (by decide) dX7_readsTurns_16 rfl ?_
    obtain ⟨v4, hF3, h⟩ := g_bd_e h
    refine e_callS_i (pc' := 21) dX7_readsTurns_18 rfl mw_851 ms_X7_in rfl (Nat.le_of_ble_eq_true rfl) (Nat.le_of_ble_eq_true rfl) (c_X7_in _ _ _ hF3) rfl ?_
    refine e_if_eq (tgt := 58) (pc' := 24) dX7_readsTurns_21 (by decide) rfl h (fun h => ?_) (fun h => ?_)
    · refine e_iload_n (pc' := 59) (i := 1) rfl rfl dX7_readsTurns_58 rfl ?_
      refine e_if_eq (tgt := 75) (pc' := 62) dX7_readsTurns_59 (by decide) rfl h (fun h => ?_) (fun h => ?_)
      · refine e_iconst (v := (-1)) (pc' := 76) (by decide) dX7_readsTurns_75 rfl ?_
        obtain rfl := g_re1 h
        exact e_iret dX7_readsTurns_76
      · refine e_aload_n (pc' := 63) (i := 0) rfl rfl dX7_readsTurns_62 rfl ?_
        refine e_aload_n (pc' := 64) (i := 0) rfl rfl dX7_readsTurns_63 rfl ?_
        refine e_getI (a := 59) (n := 951) (k0 := 7) (pc' := 67) dX7_readsTurns_64 rfl rfl (Nat.le_of_ble_eq_true rfl) (Nat.le_of_ble_eq_true rfl) rfl mw_801 rfl ?_
        obtain ⟨v6, hF5, h⟩ := g_bd_e h
        refine e_callV_i (pc' := 70) dX7_readsTurns_67 rfl mw_1080 mv_X7_byteAt rfl (Nat.le_of_ble_eq_true rfl) (Nat.le_of_ble_eq_true rfl) rfl (Nat.le_of_ble_eq_true rfl) (Nat.le_of_ble_eq_true rfl) rfl (c_X7_byteAt _ hF5) rfl ?_
        refine e_bipush (v := 58) (pc' := 72) (by decide) dX7_readsTurns_70 rfl ?_
        refine e_icmp_eq (tgt := 77) (pc' := 75) dX7_readsTurns_72 (by decide) rfl h (fun h => ?_) (fun h => ?_)
        · refine e_aload_n (pc' := 78) (i := 0) rfl rfl dX7_readsTurns_77 rfl ?_
          refine e_dup (pc' := 79) rfl dX7_readsTurns_78 rfl ?_
          refine e_getI (a := 59) (n := 951) (k0 := 7) (pc' := 82) dX7_readsTurns_79 rfl rfl (Nat.le_of_ble_eq_true rfl) (Nat.le_of_ble_eq_true rfl) rfl mw_801 rfl ?_
          refine e_iconst (v := 1) (pc' := 83) (by decide) dX7_readsTurns_82 rfl ?_
          refine e_iadd (pc' := 84) dX7_readsTurns_83 rfl ?_
          refine e_putI (a := 59) (n := 951) (k0 := 7) (pc' := 87) dX7_readsTurns_84 rfl rfl (Nat.le_of_ble_eq_true rfl) (Nat.le_of_ble_eq_true rfl) rfl mw_801 rfl rfl g_pI rfl rfl ?_
          refine e_ltI h (fun I7 h => ?_)
          refine e_iload_n (pc' := 88) (i := 1) rfl rfl dX7_readsTurns_87 rfl ?_
          obtain rfl := g_re1 h
          exact e_iret dX7_readsTurns_88
        · refine e_iconst (v := (-1)) (pc' := 76) (by decide) dX7_readsTurns_75 rfl ?_
          obtain rfl := g_re1 h
          exact e_iret dX7_readsTurns_76
    · refine e_iload_n (pc' := 25) (i := 1) rfl rfl dX7_readsTurns_24 rfl ?_
      refine e_iconst (v := 1) (pc' := 26) (by decide) dX7_readsTurns_25 rfl ?_
      refine e_aload_n (pc' := 27) (i := 0) rfl rfl dX7_readsTurns_26 rfl ?_
      refine e_getR (a := 59) (b := 64) (k0 := 5) (pc' := 30) dX7_readsTurns_27 rfl rfl (Nat.le_of_ble_eq_true rfl) (Nat.le_of_ble_eq_true rfl) rfl mw_799 rfl ?_
      refine e_aload_n (pc' := 31) (i := 0) rfl rfl dX7_readsTurns_30 rfl ?_
      refine e_getI (a := 59) (n := 951) (k0 := 7) (pc' := 34) dX7_readsTurns_31 rfl rfl (Nat.le_of_ble_eq_true rfl) (Nat.le_of_ble_eq_true rfl) rfl mw_801 rfl ?_
      refine e_iald (n := 120) (pc' := 35) dX7_readsTurns_34 rfl rfl (Nat.le_of_ble_eq_true rfl) h (fun h => ?_)
      refine e_bipush (v := 48) (pc' := 37) (by decide) dX7_readsTurns_35 rfl ?_
      refine e_isub (pc' := 38) dX7_readsTurns_37 rfl ?_
      refine e_ishl (pc' := 39) dX7_readsTurns_38 rfl ?_
      refine e_ior (pc' := 40) dX7_readsTurns_39 rfl ?_
      refine e_lt h (fun v8 h => ?_)
      refine e_istore_n (pc' := 41) (i := 1) (lc' := [some (.ref 59), some (.int v8)]) rfl dX7_readsTurns_40 rfl (Nat.le_of_ble_eq_true rfl) rfl rfl ?_
      refine e_aload_n (pc' := 42) (i := 0) rfl rfl dX7_readsTurns_41 rfl ?_
      refine e_dup (pc' := 43) rfl dX7_readsTurns_42 rfl ?_
      refine e_getI (a := 59) (n := 951) (k0 := 7) (pc' := 46) dX7_readsTurns_43 rfl rfl (Nat.le_of_ble_eq_true rfl) (Nat.le_of_ble_eq_true rfl) rfl mw_801 rfl ?_
      refine e_iconst (v := 1) (pc' := 47) (by decide) dX7_readsTurns_46 rfl ?_
      refine e_iadd (pc' := 48) dX7_readsTurns_47 rfl ?_
      refine e_putI (a := 59) (n := 951) (k0 := 7) (pc' := 51) dX7_readsTurns_48 rfl rfl (Nat.le_of_ble_eq_true rfl) (Nat.le_of_ble_eq_true rfl) rfl mw_801 rfl rfl g_pI rfl rfl ?_
      refine e_ltI h (fun I9 h => ?_)
      refine e_aload_n (pc' := 52) (i := 0) rfl rfl dX7_readsTurns_51 rfl ?_
      obtain ⟨I11, A12, L13, hF10, h⟩ := g_b1_e h
      refine e_callV_v (pc' := 55) dX7_readsTurns_52 rfl mw_1076 mv_X7_skips rfl (Nat.le_of_ble_eq_true rfl) (Nat.le_of_ble_eq_true rfl) rfl (Nat.le_of_ble_eq_true rfl) (Nat.le_of_ble_eq_true rfl) rfl (c_X7_skips hF10) rfl ?_
      refine e_goto (tgt := 6) dX7_readsTurns_55 (by decide) ?_
      exact e_weak (lc' := [some (.ref 59), some (.int v8)]) (gle_s (gle_s gle_0)) (ih _ _ _ _ _ h)
set_option maxHeartbeats 4000000 in
set_option maxRecDepth 100000 in
theorem c_X7_readsTurns  {I : Nat → Int32} {A : Nat → Nat → Int32} {L : Nat → Int64} {t : Int32} {I' : Nat → Int32} {A' : Nat → Nat → Int32} {L' : Nat → Int64} (h : f_X7_readsTurns   I A L = some (t, I', A', L')) : GM 70 yX7_readsTurns cX7_readsTurns 2 (some .int) 2 [.ref 59] I A L (some (.int t), (I', A', L')) := by
  refine gm_of (n := 1) (lc := [some (.ref 59), none]) (by decide +kernel) rfl (fun _ => Nat.le_of_ble_eq_true rfl) ?_
  change Ev 70 RX7 cX7_readsTurns 2 (some .int) 2 0 [some (.ref 59), none] [] I A L _
  unfold f_X7_readsTurns at h
  refine e_iconst (v := 0) (pc' := 1) (by decide) dX7_readsTurns_0 rfl ?_
  refine e_istore_n (pc' := 2) (i := 1) (lc' := [some (.ref 59), some (.int 0)]) rfl dX7_readsTurns_1 rfl (Nat.le_of_ble_eq_true rfl) rfl rfl ?_
  refine e_aload_n (pc' := 3) (i := 0) rfl rfl dX7_readsTurns_2 rfl ?_
  obtain ⟨I2, A3, L4, hF1, h⟩ := g_b1_e h
  refine e_callV_v (pc' := 6) dX7_readsTurns_3 rfl mw_1076 mv_X7_skips rfl (Nat.le_of_ble_eq_true rfl) (Nat.le_of_ble_eq_true rfl) rfl (Nat.le_of_ble_eq_true rfl) (Nat.le_of_ble_eq_true rfl) rfl (c_X7_skips hF1) rfl ?_
  exact e_weak (lc' := [some (.ref 59), some (.int 0)]) (gle_s (gle_s gle_0)) (w_X7_readsTurns_p6  _ _ _ _ _ _ h)
set_option maxHeartbeats 4000000 in
set_option maxRecDepth 100000 in
theorem w_X7_sentence_p17  : ∀ (s0 : Int32) (I : Nat → Int32) (A : Nat → Nat → Int32) (L : Nat → Int64) (t : (Int32 × gS)), f_X7_sentence_p17 s0 I A L = some t → Ev 70 RX7 cX7_sentence 4 (some .boolean) 3 17 [some (.ref 59), none, none, none] [.int s0] I A L (some (.int t.1), t.2) := by
  intro s0 I A L t h
  unfold f_X7_sentence_p17 at h
  refine e_istore_n (pc' := 18) (i := 2) (lc' := [some (.ref 59), none, some (.int s0), none]) rfl dX7_sentence_17 rfl (Nat.le_of_ble_eq_true rfl) rfl rfl ?_
  refine e_iload_n (pc' := 19) (i := 2) rfl rfl dX7_sentence_18 rfl ?_
  refine e_if_lt (tgt := 29) (pc' := 22) dX7_sentence_19 (by decide) rfl h (fun h => ?_) (fun h => ?_)
  · refine e_iconst (v := 0) (pc' := 30) (by decide) dX7_sentence_29 rfl ?_
    obtain rfl := g_re1 h
    exact e_zret dX7_sentence_30 (by decide)
  · refine e_aload_n (pc' := 23) (i := 0) rfl rfl dX7_sentence_22 rfl ?_
    obtain ⟨v5, I2, A3, L4, hF1, h⟩ := g_b2_e h
    refine e_callV_i (pc' := 26) dX7_sentence_23 rfl mw_1096 mv_X7_readsSign rfl (Nat.le_of_ble_eq_true rfl) (Nat.le_of_ble_eq_true rfl) rfl (Nat.le_of_ble_eq_true rfl) (Nat.le_of_ble_eq_true rfl) rfl (c_X7_readsSign hF1) rfl ?_
    refine e_if_ne (tgt := 31) (pc' := 29) dX7_sentence_26 (by decide) rfl h (fun h => ?_) (fun h => ?_)
    · refine e_aload_n (pc' := 32) (i := 0) rfl rfl dX7_sentence_31 rfl ?_
      obtain ⟨v10, I7, A8, L9, hF6, h⟩ := g_b2_e h
      refine e_callV_i (pc' := 35) dX7_sentence_32 rfl mw_1100 mv_X7_readsOff rfl (Nat.le_of_ble_eq_true rfl) (Nat.le_of_ble_eq_true rfl) rfl (Nat.le_of_ble_eq_true rfl) (Nat.le_of_ble_eq_true rfl) rfl (c_X7_readsOff hF6) rfl ?_
      refine e_istore_n (pc' := 36) (i := 3) (lc' := [some (.ref 59), none, some (.int s0), some (.int v10)]) rfl dX7_sentence_35 rfl (Nat.le_of_ble_eq_true rfl) rfl rfl ?_
      refine e_iload_n (pc' := 37) (i := 3) rfl rfl dX7_sentence_36 rfl ?_
      refine e_if_ne (tgt := 42) (pc' := 40) dX7_sentence_37 (by decide) rfl h (fun h => ?_) (fun h => ?_)
      · refine e_aload_n (pc' := 43) (i := 0) rfl rfl dX7_sentence_42 rfl ?_
        obtain ⟨I12, A13, L14, hF11, h⟩ := g_b1_e h
        refine e_callV_v (pc' := 46) dX7_sentence_43 rfl mw_1076 mv_X7_skips rfl (Nat.le_of_ble_eq_true rfl) (Nat.le_of_ble_eq_true rfl) rfl (Nat.le_of_ble_eq_true rfl) (Nat.le_of_ble_eq_true rfl) rfl (c_X7_skips hF11) rfl ?_
        refine e_aload_n (pc' := 47) (i := 0) rfl rfl dX7_sentence_46 rfl ?_
        refine e_aload_n (pc' := 48) (i := 0) rfl rfl dX7_sentence_47 rfl ?_
        refine e_getI (a := 59) (n := 951) (k0 := 7) (pc' := 51) dX7_sentence_48 rfl rfl (Nat.le_of_ble_eq_true rfl) (Nat.le_of_ble_eq_true rfl) rfl mw_801 rfl ?_
        obtain ⟨v16, hF15, h⟩ := g_bd_e h
        refine e_callV_i (pc' := 54) dX7_sentence_51 rfl mw_1080 mv_X7_byteAt rfl (Nat.le_of_ble_eq_true rfl) (Nat.le_of_ble_eq_true rfl) rfl (Nat.le_of_ble_eq_true rfl) (Nat.le_of_ble_eq_true rfl) rfl (c_X7_byteAt _ hF15) rfl ?_
        refine e_bipush (v := 59) (pc' := 56) (by decide) dX7_sentence_54 rfl ?_
        refine e_icmp_ne (tgt := 94) (pc' := 59) dX7_sentence_56 (by decide) rfl h (fun h => ?_) (fun h => ?_)
        · refine e_iconst (v := 0) (pc' := 95) (by decide) dX7_sentence_94 rfl ?_
          obtain rfl := g_re1 h
          exact e_zret dX7_sentence_95 (by decide)
        · refine e_aload_n (pc' := 60) (i := 0) rfl rfl dX7_sentence_59 rfl ?_
          refine e_getR (a := 59) (b := 60) (k0 := 0) (pc' := 63) dX7_sentence_60 rfl rfl (Nat.le_of_ble_eq_true rfl) (Nat.le_of_ble_eq_true rfl) rfl mw_794 rfl ?_
          refine e_iconst (v := 0) (pc' := 64) (by decide) dX7_sentence_63 rfl ?_
          refine e_iald (n := 129) (pc' := 65) dX7_sentence_64 rfl rfl (Nat.le_of_ble_eq_true rfl) h (fun h => ?_)
          refine e_aload_n (pc' := 66) (i := 0) rfl rfl dX7_sentence_65 rfl ?_
          refine e_iload_n (pc' := 67) (i := 2) rfl rfl dX7_sentence_66 rfl ?_
          refine e_aload_n (pc' := 68) (i := 0) rfl rfl dX7_sentence_67 rfl ?_
          refine e_getR (a := 59) (b := 68) (k0 := 14) (pc' := 71) dX7_sentence_68 rfl rfl (Nat.le_of_ble_eq_true rfl) (Nat.le_of_ble_eq_true rfl) rfl mw_808 rfl ?_
          refine e_iconst (v := 0) (pc' := 72) (by decide) dX7_sentence_71 rfl ?_
          refine e_iald (n := 3) (pc' := 73) dX7_sentence_72 rfl rfl (Nat.le_of_ble_eq_true rfl) h (fun h => ?_)
          refine e_aload_n (pc' := 74) (i := 0) rfl rfl dX7_sentence_73 rfl ?_
          refine e_getR (a := 59) (b := 68) (k0 := 14) (pc' := 77) dX7_sentence_74 rfl rfl (Nat.le_of_ble_eq_true rfl) (Nat.le_of_ble_eq_true rfl) rfl mw_808 rfl ?_
          refine e_iconst (v := 1) (pc' := 78) (by decide) dX7_sentence_77 rfl ?_
          refine e_iald (n := 3) (pc' := 79) dX7_sentence_78 rfl rfl (Nat.le_of_ble_eq_true rfl) h (fun h => ?_)
          refine e_aload_n (pc' := 80) (i := 0) rfl rfl dX7_sentence_79 rfl ?_
          refine e_getR (a := 59) (b := 68) (k0 := 14) (pc' := 83) dX7_sentence_80 rfl rfl (Nat.le_of_ble_eq_true rfl) (Nat.le_of_ble_eq_true rfl) rfl mw_808 rfl ?_
          refine e_iconst (v := 2) (pc' := 84) (by decide) dX7_sentence_83 rfl ?_
          refine e_iald (n := 3) (pc' := 85) dX7_sentence_84 rfl rfl (Nat.le_of_ble_eq_true rfl) h (fun h => ?_)
          obtain ⟨v21, I18, A19, L20, hF17, h⟩ := g_b2_e h
          refine e_callV_i (pc' := 88) dX7_sentence_85 rfl mw_874 mv_X7_laysFamily rfl (Nat.le_of_ble_eq_true rfl) (Nat.le_of_ble_eq_true rfl) rfl (Nat.le_of_ble_eq_true rfl) (Nat.le_of_ble_eq_true rfl) rfl (c_X7_laysFamily _ _ _ _ hF17) rfl ?_
          refine e_iadd (pc' := 89) dX7_sentence_88 rfl ?_
          refine e_bipush (v := 32) (pc' := 91) (by decide) dX7_sentence_89 rfl ?_
          refine e_icmp_le (tgt := 96) (pc' := 94) dX7_sentence_91 (by decide) rfl h (fun h => ?_) (fun h => ?_)
          · refine e_aload_n (pc' := 97) (i := 0) rfl rfl dX7_sentence_96 rfl ?_
            refine e_dup (pc' := 98) rfl dX7_sentence_97 rfl ?_
            refine e_getI (a := 59) (n := 951) (k0 := 7) (pc' := 101) dX7_sentence_98 rfl rfl (Nat.le_of_ble_eq_true rfl) (Nat.le_of_ble_eq_true rfl) rfl mw_801 rfl ?_
            refine e_iconst (v := 1) (pc' := 102) (by decide) dX7_sentence_101 rfl ?_
            refine e_iadd (pc' := 103) dX7_sentence_102 rfl ?_
            refine e_putI (a := 59) (n := 951) (k0 := 7) (pc' := 106) dX7_sentence_103 rfl rfl (Nat.le_of_ble_eq_true rfl) (Nat.le_of_ble_eq_true rfl) rfl mw_801 rfl rfl g_pI rfl rfl ?_
            refine e_ltI h (fun I22 h => ?_)
            refine e_aload_n (pc' := 107) (i := 0) rfl rfl dX7_sentence_106 rfl ?_
            refine e_iload_n (pc' := 108) (i := 3) rfl rfl dX7_sentence_107 rfl ?_
            obtain ⟨I24, A25, L26, hF23, h⟩ := g_b1_e h
            refine e_callV_v (pc' := 111) dX7_sentence_108 rfl mw_882 mv_X7_familyComes rfl (Nat.le_of_ble_eq_true rfl) (Nat.le_of_ble_eq_true rfl) rfl (Nat.le_of_ble_eq_true rfl) (Nat.le_of_ble_eq_true rfl) rfl (c_X7_familyComes _ hF23) rfl ?_
            refine e_iconst (v := 1) (pc' := 112) (by decide) dX7_sentence_111 rfl ?_
            obtain rfl := g_re1 h
            exact e_zret dX7_sentence_112 (by decide)
          · refine e_iconst (v := 0) (pc' := 95) (by decide) dX7_sentence_94 rfl ?_
            obtain rfl := g_re1 h
            exact e_zret dX7_sentence_95 (by decide)
      · refine e_iconst (v := 0) (pc' := 41) (by decide) dX7_sentence_40 rfl ?_
        obtain rfl := g_re1 h
        exact e_zret dX7_sentence_41 (by decide)
    · refine e_iconst (v := 0) (pc' := 30) (by decide) dX7_sentence_29 rfl ?_
      obtain rfl := g_re1 h
      exact e_zret dX7_sentence_30 (by decide)
set_option maxHeartbeats 4000000 in
set_option maxRecDepth 100000 in
theorem c_X7_sentence  {I : Nat → Int32} {A : Nat → Nat → Int32} {L : Nat → Int64} {t : Int32} {I' : Nat → Int32} {A' : Nat → Nat → Int32} {L' : Nat → Int64} (h : f_X7_sentence   I A L = some (t, I', A', L')) : GM 70 yX7_sentence cX7_sentence 4 (some .boolean) 3 [.ref 59] I A L (some (.int t), (I', A', L')) := by
  refine gm_of (n := 3) (lc := [some (.ref 59), none, none, none]) (by decide +kernel) rfl (fun _ => Nat.le_of_ble_eq_true rfl) ?_
  change Ev 70 RX7 cX7_sentence 4 (some .boolean) 3 0 [some (.ref 59), none, none, none] [] I A L _
  unfold f_X7_sentence at h
  refine e_aload_n (pc' := 1) (i := 0) rfl rfl dX7_sentence_0 rfl ?_
  obtain ⟨v2, hF1, h⟩ := g_bd_e h
  refine e_callV_i (pc' := 4) dX7_sentence_1 rfl mw_1088 mv_X7_isFamily rfl (Nat.le_of_ble_eq_true rfl) (Nat.le_of_ble_eq_true rfl) rfl (Nat.le_of_ble_eq_true rfl) (Nat.le_of_ble_eq_true rfl) rfl (c_X7_isFamily hF1) rfl ?_
  refine e_istore_n (pc' := 5) (i := 1) (lc' := [some (.ref 59), some (.int v2), none, none]) rfl dX7_sentence_4 rfl (Nat.le_of_ble_eq_true rfl) rfl rfl ?_
  refine e_iload_n (pc' := 6) (i := 1) rfl rfl dX7_sentence_5 rfl ?_
  refine e_if_eq (tgt := 16) (pc' := 9) dX7_sentence_6 (by decide) rfl h (fun h => ?_) (fun h => ?_)
  · refine e_iconst (v := 0) (pc' := 17) (by decide) dX7_sentence_16 rfl ?_
    exact e_weak (lc' := [some (.ref 59), none, none, none]) (gle_s (gle_n (gle_n (gle_n gle_0)))) (w_X7_sentence_p17  _ _ _ _ _ h)
  · refine e_aload_n (pc' := 10) (i := 0) rfl rfl dX7_sentence_9 rfl ?_
    obtain ⟨v7, I4, A5, L6, hF3, h⟩ := g_b2_e h
    refine e_callV_i (pc' := 13) dX7_sentence_10 rfl mw_1092 mv_X7_readsTurns rfl (Nat.le_of_ble_eq_true rfl) (Nat.le_of_ble_eq_true rfl) rfl (Nat.le_of_ble_eq_true rfl) (Nat.le_of_ble_eq_true rfl) rfl (c_X7_readsTurns hF3) rfl ?_
    refine e_goto (tgt := 17) dX7_sentence_13 (by decide) ?_
    exact e_weak (lc' := [some (.ref 59), none, none, none]) (gle_s (gle_n (gle_n (gle_n gle_0)))) (w_X7_sentence_p17  _ _ _ _ _ h)
set_option maxHeartbeats 4000000 in
set_option maxRecDepth 100000 in
theorem w_X7_reads_p51  : ∀ (x2 : Int32) (I : Nat → Int32) (A : Nat → Nat → Int32) (L : Nat → Int64) (t : (Int32 × gS)), f_X7_reads_p51 x2 I A L = some t → Ev 70 RX7 cX7_reads 3 (some .int) 4 51 [some (.ref 59), none, some (.int x2)] [] I A L (some (.int t.1), t.2) := by
  intro x2 I A L t h
  unfold f_X7_reads_p51 at h
  refine e_iload_n (pc' := 52) (i := 2) rfl rfl dX7_reads_51 rfl ?_
  refine e_if_ne (tgt := 67) (pc' := 55) dX7_reads_52 (by decide) rfl h (fun h => ?_) (fun h => ?_)
  · refine e_aload_n (pc' := 68) (i := 0) rfl rfl dX7_reads_67 rfl ?_
    obtain ⟨I2, A3, L4, hF1, h⟩ := g_b1_e h
    refine e_callV_v (pc' := 71) dX7_reads_68 rfl mw_862 mv_X7_keeps rfl (Nat.le_of_ble_eq_true rfl) (Nat.le_of_ble_eq_true rfl) rfl (Nat.le_of_ble_eq_true rfl) (Nat.le_of_ble_eq_true rfl) rfl (c_X7_keeps hF1) rfl ?_
    refine e_aload_n (pc' := 72) (i := 0) rfl rfl dX7_reads_71 rfl ?_
    refine e_getR (a := 59) (b := 60) (k0 := 0) (pc' := 75) dX7_reads_72 rfl rfl (Nat.le_of_ble_eq_true rfl) (Nat.le_of_ble_eq_true rfl) rfl mw_794 rfl ?_
    refine e_iconst (v := 0) (pc' := 76) (by decide) dX7_reads_75 rfl ?_
    refine e_iald (n := 129) (pc' := 77) dX7_reads_76 rfl rfl (Nat.le_of_ble_eq_true rfl) h (fun h => ?_)
    refine e_aload_n (pc' := 78) (i := 0) rfl rfl dX7_reads_77 rfl ?_
    refine e_getR (a := 59) (b := 62) (k0 := 3) (pc' := 81) dX7_reads_78 rfl rfl (Nat.le_of_ble_eq_true rfl) (Nat.le_of_ble_eq_true rfl) rfl mw_797 rfl ?_
    refine e_iconst (v := 0) (pc' := 82) (by decide) dX7_reads_81 rfl ?_
    refine e_iald (n := 129) (pc' := 83) dX7_reads_82 rfl rfl (Nat.le_of_ble_eq_true rfl) h (fun h => ?_)
    refine e_isub (pc' := 84) dX7_reads_83 rfl ?_
    obtain rfl := g_re1 h
    exact e_iret dX7_reads_84
  · refine e_aload_n (pc' := 56) (i := 0) rfl rfl dX7_reads_55 rfl ?_
    obtain ⟨I6, A7, L8, hF5, h⟩ := g_b1_e h
    refine e_callV_v (pc' := 59) dX7_reads_56 rfl mw_1060 mv_X7_restores rfl (Nat.le_of_ble_eq_true rfl) (Nat.le_of_ble_eq_true rfl) rfl (Nat.le_of_ble_eq_true rfl) (Nat.le_of_ble_eq_true rfl) rfl (c_X7_restores hF5) rfl ?_
    refine e_bipush (v := (-10)) (pc' := 61) (by decide) dX7_reads_59 rfl ?_
    refine e_aload_n (pc' := 62) (i := 0) rfl rfl dX7_reads_61 rfl ?_
    refine e_getI (a := 59) (n := 951) (k0 := 7) (pc' := 65) dX7_reads_62 rfl rfl (Nat.le_of_ble_eq_true rfl) (Nat.le_of_ble_eq_true rfl) rfl mw_801 rfl ?_
    refine e_isub (pc' := 66) dX7_reads_65 rfl ?_
    obtain rfl := g_re1 h
    exact e_iret dX7_reads_66
set_option maxHeartbeats 4000000 in
set_option maxRecDepth 100000 in
theorem w_X7_reads_p36  (k17 : Int32 → Int32 → (Nat → Int32) → (Nat → Nat → Int32) → (Nat → Int64) → Option (Int32 × gS)) (hk17 : ∀ (x1 : Int32) (x2 : Int32) (I : Nat → Int32) (A : Nat → Nat → Int32) (L : Nat → Int64) (t : (Int32 × gS)), k17 x1 x2 I A L = some t → Ev 70 RX7 cX7_reads 3 (some .int) 4 17 [some (.ref 59), some (.int x1), some (.int x2)] [] I A L (some (.int t.1), t.2)) : ∀ (x1 : Int32) (I : Nat → Int32) (A : Nat → Nat → Int32) (L : Nat → Int64) (t : (Int32 × gS)), f_X7_reads_p36 k17 x1 I A L = some t → Ev 70 RX7 cX7_reads 3 (some .int) 4 36 [some (.ref 59), some (.int x1), none] [] I A L (some (.int t.1), t.2) := by
  intro x1 I A L t h
  unfold f_X7_reads_p36 at h
  refine e_aload_n (pc' := 37) (i := 0) rfl rfl dX7_reads_36 rfl ?_
  obtain ⟨v5, I2, A3, L4, hF1, h⟩ := g_b2_e h
  refine e_callV_i (pc' := 40) dX7_reads_37 rfl mw_1084 mv_X7_sentence rfl (Nat.le_of_ble_eq_true rfl) (Nat.le_of_ble_eq_true rfl) rfl (Nat.le_of_ble_eq_true rfl) (Nat.le_of_ble_eq_true rfl) rfl (c_X7_sentence hF1) rfl ?_
  refine e_istore_n (pc' := 41) (i := 2) (lc' := [some (.ref 59), some (.int x1), some (.int v5)]) rfl dX7_reads_40 rfl (Nat.le_of_ble_eq_true rfl) rfl rfl ?_
  refine e_iinc (pc' := 44) (v := (x1 + 1)) (lc' := [some (.ref 59), some (.int (x1 + 1)), some (.int v5)]) dX7_reads_41 rfl rfl rfl (Nat.le_of_ble_eq_true rfl) rfl rfl ?_
  refine e_aload_n (pc' := 45) (i := 0) rfl rfl dX7_reads_44 rfl ?_
  obtain ⟨I7, A8, L9, hF6, h⟩ := g_b1_e h
  refine e_callV_v (pc' := 48) dX7_reads_45 rfl mw_1076 mv_X7_skips rfl (Nat.le_of_ble_eq_true rfl) (Nat.le_of_ble_eq_true rfl) rfl (Nat.le_of_ble_eq_true rfl) (Nat.le_of_ble_eq_true rfl) rfl (c_X7_skips hF6) rfl ?_
  refine e_goto (tgt := 17) dX7_reads_48 (by decide) ?_
  exact e_weak (lc' := [some (.ref 59), some (.int (x1 + 1)), some (.int v5)]) (gle_s (gle_s (gle_s gle_0))) (hk17 _ _ _ _ _ _ h)
set_option maxHeartbeats 4000000 in
set_option maxRecDepth 100000 in
theorem w_X7_reads_p17  : ∀ (n : Nat) (x1 : Int32) (x2 : Int32) (I : Nat → Int32) (A : Nat → Nat → Int32) (L : Nat → Int64) (t : (Int32 × gS)), f_X7_reads_p17 n x1 x2 I A L = some t → Ev 70 RX7 cX7_reads 3 (some .int) 4 17 [some (.ref 59), some (.int x1), some (.int x2)] [] I A L (some (.int t.1), t.2) := by
  intro n
  induction n with
  | zero =>
    intro x1 x2 I A L t h
    cases h
  | succ n ih =>
    intro x1 x2 I A L t h
    rw [f_X7_reads_p17] at h
    refine e_iload_n (pc' := 18) (i := 2) rfl rfl dX7_reads_17 rfl ?_
    refine e_if_eq (tgt := 51) (pc' := 21) dX7_reads_18 (by decide) rfl h (fun h => ?_) (fun h => ?_)
    · exact e_weak (lc' := [some (.ref 59), none, some (.int x2)]) (gle_s (gle_n (gle_s gle_0))) (w_X7_reads_p51  _ _ _ _ _ h)
    · refine e_aload_n (pc' := 22) (i := 0) rfl rfl dX7_reads_21 rfl ?_
      refine e_getI (a := 59) (n := 951) (k0 := 7) (pc' := 25) dX7_reads_22 rfl rfl (Nat.le_of_ble_eq_true rfl) (Nat.le_of_ble_eq_true rfl) rfl mw_801 rfl ?_
      refine e_aload_n (pc' := 26) (i := 0) rfl rfl dX7_reads_25 rfl ?_
      refine e_getI (a := 59) (n := 950) (k0 := 6) (pc' := 29) dX7_reads_26 rfl rfl (Nat.le_of_ble_eq_true rfl) (Nat.le_of_ble_eq_true rfl) rfl mw_800 rfl ?_
      refine e_icmp_lt (tgt := 36) (pc' := 32) dX7_reads_29 (by decide) rfl h (fun h => ?_) (fun h => ?_)
      · exact e_weak (lc' := [some (.ref 59), some (.int x1), none]) (gle_s (gle_s (gle_n gle_0))) (w_X7_reads_p36 _ ih _ _ _ _ _ h)
      · refine e_iload_n (pc' := 33) (i := 1) rfl rfl dX7_reads_32 rfl ?_
        refine e_if_ne (tgt := 51) (pc' := 36) dX7_reads_33 (by decide) rfl h (fun h => ?_) (fun h => ?_)
        · exact e_weak (lc' := [some (.ref 59), none, some (.int x2)]) (gle_s (gle_n (gle_s gle_0))) (w_X7_reads_p51  _ _ _ _ _ h)
        · exact e_weak (lc' := [some (.ref 59), some (.int x1), none]) (gle_s (gle_s (gle_n gle_0))) (w_X7_reads_p36 _ ih _ _ _ _ _ h)
set_option maxHeartbeats 4000000 in
set_option maxRecDepth 100000 in
theorem c_X7_reads  {I : Nat → Int32} {A : Nat → Nat → Int32} {L : Nat → Int64} {t : Int32} {I' : Nat → Int32} {A' : Nat → Nat → Int32} {L' : Nat → Int64} (h : f_X7_reads   I A L = some (t, I', A', L')) : GM 70 yX7_reads cX7_reads 3 (some .int) 4 [.ref 59] I A L (some (.int t), (I', A', L')) := by
  refine gm_of (n := 2) (lc := [some (.ref 59), none, none]) (by decide +kernel) rfl (fun _ => Nat.le_of_ble_eq_true rfl) ?_
  change Ev 70 RX7 cX7_reads 3 (some .int) 4 0 [some (.ref 59), none, none] [] I A L _
  unfold f_X7_reads at h
  refine e_aload_n (pc' := 1) (i := 0) rfl rfl dX7_reads_0 rfl ?_
  obtain ⟨I2, A3, L4, hF1, h⟩ := g_b1_e h
  refine e_callV_v (pc' := 4) dX7_reads_1 rfl mw_858 mv_X7_aside rfl (Nat.le_of_ble_eq_true rfl) (Nat.le_of_ble_eq_true rfl) rfl (Nat.le_of_ble_eq_true rfl) (Nat.le_of_ble_eq_true rfl) rfl (c_X7_aside hF1) rfl ?_
  refine e_iconst (v := 0) (pc' := 5) (by decide) dX7_reads_4 rfl ?_
  refine e_istore_n (pc' := 6) (i := 1) (lc' := [some (.ref 59), some (.int 0), none]) rfl dX7_reads_5 rfl (Nat.le_of_ble_eq_true rfl) rfl rfl ?_
  refine e_aload_n (pc' := 7) (i := 0) rfl rfl dX7_reads_6 rfl ?_
  refine e_iconst (v := 0) (pc' := 8) (by decide) dX7_reads_7 rfl ?_
  refine e_putI (a := 59) (n := 951) (k0 := 7) (pc' := 11) dX7_reads_8 rfl rfl (Nat.le_of_ble_eq_true rfl) (Nat.le_of_ble_eq_true rfl) rfl mw_801 rfl rfl g_pI rfl rfl ?_
  refine e_ltI h (fun I5 h => ?_)
  refine e_aload_n (pc' := 12) (i := 0) rfl rfl dX7_reads_11 rfl ?_
  obtain ⟨I7, A8, L9, hF6, h⟩ := g_b1_e h
  refine e_callV_v (pc' := 15) dX7_reads_12 rfl mw_1076 mv_X7_skips rfl (Nat.le_of_ble_eq_true rfl) (Nat.le_of_ble_eq_true rfl) rfl (Nat.le_of_ble_eq_true rfl) (Nat.le_of_ble_eq_true rfl) rfl (c_X7_skips hF6) rfl ?_
  refine e_iconst (v := 1) (pc' := 16) (by decide) dX7_reads_15 rfl ?_
  refine e_istore_n (pc' := 17) (i := 2) (lc' := [some (.ref 59), some (.int 0), some (.int 1)]) rfl dX7_reads_16 rfl (Nat.le_of_ble_eq_true rfl) rfl rfl ?_
  exact e_weak (lc' := [some (.ref 59), some (.int 0), some (.int 1)]) (gle_s (gle_s (gle_s gle_0))) (w_X7_reads_p17  _ _ _ _ _ _ _ h)
set_option maxHeartbeats 4000000 in
set_option maxRecDepth 100000 in
theorem w_X7_back_p26  : ∀ (n : Nat) (x1 : Int32) (I : Nat → Int32) (A : Nat → Nat → Int32) (L : Nat → Int64) (t : (Int32 × gS)), f_X7_back_p26 n x1 I A L = some t → Ev 70 RX7 cX7_back 2 (some .int) 1 26 [some (.ref 59), some (.int x1)] [] I A L (some (.int t.1), t.2) := by
  intro n
  induction n with
  | zero =>
    intro x1 I A L t h
    cases h
  | succ n ih =>
    intro x1 I A L t h
    rw [f_X7_back_p26] at h
    refine e_iload_n (pc' := 27) (i := 1) rfl rfl dX7_back_26 rfl ?_
    refine e_sipush (v := 129) (pc' := 30) (by decide) dX7_back_27 rfl ?_
    refine e_icmp_ge (tgt := 60) (pc' := 33) dX7_back_30 (by decide) rfl h (fun h => ?_) (fun h => ?_)
    · refine e_aload_n (pc' := 61) (i := 0) rfl rfl dX7_back_60 rfl ?_
      refine e_getI (a := 59) (n := 946) (k0 := 2) (pc' := 64) dX7_back_61 rfl rfl (Nat.le_of_ble_eq_true rfl) (Nat.le_of_ble_eq_true rfl) rfl mw_796 rfl ?_
      obtain rfl := g_re1 h
      exact e_iret dX7_back_64
    · refine e_aload_n (pc' := 34) (i := 0) rfl rfl dX7_back_33 rfl ?_
      refine e_getR (a := 59) (b := 60) (k0 := 0) (pc' := 37) dX7_back_34 rfl rfl (Nat.le_of_ble_eq_true rfl) (Nat.le_of_ble_eq_true rfl) rfl mw_794 rfl ?_
      refine e_iload_n (pc' := 38) (i := 1) rfl rfl dX7_back_37 rfl ?_
      refine e_aload_n (pc' := 39) (i := 0) rfl rfl dX7_back_38 rfl ?_
      refine e_getR (a := 59) (b := 61) (k0 := 1) (pc' := 42) dX7_back_39 rfl rfl (Nat.le_of_ble_eq_true rfl) (Nat.le_of_ble_eq_true rfl) rfl mw_795 rfl ?_
      refine e_sipush (v := 129) (pc' := 45) (by decide) dX7_back_42 rfl ?_
      refine e_aload_n (pc' := 46) (i := 0) rfl rfl dX7_back_45 rfl ?_
      refine e_getI (a := 59) (n := 946) (k0 := 2) (pc' := 49) dX7_back_46 rfl rfl (Nat.le_of_ble_eq_true rfl) (Nat.le_of_ble_eq_true rfl) rfl mw_796 rfl ?_
      refine e_imul (pc' := 50) dX7_back_49 rfl ?_
      refine e_iload_n (pc' := 51) (i := 1) rfl rfl dX7_back_50 rfl ?_
      refine e_iadd (pc' := 52) dX7_back_51 rfl ?_
      refine e_iald (n := 645) (pc' := 53) dX7_back_52 rfl rfl (Nat.le_of_ble_eq_true rfl) h (fun h => ?_)
      refine e_iast (n := 129) (pc' := 54) dX7_back_53 rfl rfl (Nat.le_of_ble_eq_true rfl) h (fun h => ?_)
      refine e_ltA h (fun A1 h => ?_)
      refine e_iinc (pc' := 57) (v := (x1 + 1)) (lc' := [some (.ref 59), some (.int (x1 + 1))]) dX7_back_54 rfl rfl rfl (Nat.le_of_ble_eq_true rfl) rfl rfl ?_
      refine e_goto (tgt := 26) dX7_back_57 (by decide) ?_
      exact e_weak (lc' := [some (.ref 59), some (.int (x1 + 1))]) (gle_s (gle_s gle_0)) (ih _ _ _ _ _ h)
set_option maxHeartbeats 4000000 in
set_option maxRecDepth 100000 in
theorem c_X7_back  {I : Nat → Int32} {A : Nat → Nat → Int32} {L : Nat → Int64} {t : Int32} {I' : Nat → Int32} {A' : Nat → Nat → Int32} {L' : Nat → Int64} (h : f_X7_back   I A L = some (t, I', A', L')) : GM 70 yX7_back cX7_back 2 (some .int) 1 [.ref 59] I A L (some (.int t), (I', A', L')) := by
  refine gm_of (n := 1) (lc := [some (.ref 59), none]) (by decide +kernel) rfl (fun _ => Nat.le_of_ble_eq_true rfl) ?_
  change Ev 70 RX7 cX7_back 2 (some .int) 1 0 [some (.ref 59), none] [] I A L _
  unfold f_X7_back at h
  refine e_aload_n (pc' := 1) (i := 0) rfl rfl dX7_back_0 rfl ?_
  refine e_getI (a := 59) (n := 946) (k0 := 2) (pc' := 4) dX7_back_1 rfl rfl (Nat.le_of_ble_eq_true rfl) (Nat.le_of_ble_eq_true rfl) rfl mw_796 rfl ?_
  refine e_if_ne (tgt := 14) (pc' := 7) dX7_back_4 (by decide) rfl h (fun h => ?_) (fun h => ?_)
  · refine e_aload_n (pc' := 15) (i := 0) rfl rfl dX7_back_14 rfl ?_
    refine e_dup (pc' := 16) rfl dX7_back_15 rfl ?_
    refine e_getI (a := 59) (n := 946) (k0 := 2) (pc' := 19) dX7_back_16 rfl rfl (Nat.le_of_ble_eq_true rfl) (Nat.le_of_ble_eq_true rfl) rfl mw_796 rfl ?_
    refine e_iconst (v := 1) (pc' := 20) (by decide) dX7_back_19 rfl ?_
    refine e_isub (pc' := 21) dX7_back_20 rfl ?_
    refine e_putI (a := 59) (n := 946) (k0 := 2) (pc' := 24) dX7_back_21 rfl rfl (Nat.le_of_ble_eq_true rfl) (Nat.le_of_ble_eq_true rfl) rfl mw_796 rfl rfl g_pI rfl rfl ?_
    refine e_ltI h (fun I1 h => ?_)
    refine e_iconst (v := 0) (pc' := 25) (by decide) dX7_back_24 rfl ?_
    refine e_istore_n (pc' := 26) (i := 1) (lc' := [some (.ref 59), some (.int 0)]) rfl dX7_back_25 rfl (Nat.le_of_ble_eq_true rfl) rfl rfl ?_
    exact e_weak (lc' := [some (.ref 59), some (.int 0)]) (gle_s (gle_s gle_0)) (w_X7_back_p26  _ _ _ _ _ _ h)
  · refine e_aload_n (pc' := 8) (i := 0) rfl rfl dX7_back_7 rfl ?_
    refine e_bipush (v := (-3)) (pc' := 10) (by decide) dX7_back_8 rfl ?_
    obtain ⟨v6, I3, A4, L5, hF2, h⟩ := g_b2_e h
    refine e_callV_i (pc' := 13) dX7_back_10 rfl mw_854 mv_X7_refuses rfl (Nat.le_of_ble_eq_true rfl) (Nat.le_of_ble_eq_true rfl) rfl (Nat.le_of_ble_eq_true rfl) (Nat.le_of_ble_eq_true rfl) rfl (c_X7_refuses _ hF2) rfl ?_
    obtain ⟨rfl, rfl, rfl, rfl⟩ := g_re4 h
    exact e_iret dX7_back_13
set_option maxHeartbeats 4000000 in
set_option maxRecDepth 100000 in
theorem c_X7_toldOf (a0 : Int32) {I : Nat → Int32} {A : Nat → Nat → Int32} {L : Nat → Int64} {t : Int32} (h : f_X7_toldOf I A L a0 = some t) : GM 70 yX7_toldOf cX7_toldOf 2 (some .int) 0 [.ref 59, .int a0] I A L (some (.int t), (I, A, L)) := by
  refine gm_of (n := 0) (lc := [some (.ref 59), some (.int a0)]) (by decide +kernel) rfl (fun _ => Nat.le_of_ble_eq_true rfl) ?_
  change Ev 70 RX7 cX7_toldOf 2 (some .int) 0 0 [some (.ref 59), some (.int a0)] [] I A L _
  unfold f_X7_toldOf at h
  refine e_iload_n (pc' := 1) (i := 1) rfl rfl dX7_toldOf_0 rfl ?_
  refine e_iconst (v := 3) (pc' := 2) (by decide) dX7_toldOf_1 rfl ?_
  refine e_icmp_ge (tgt := 14) (pc' := 5) dX7_toldOf_2 (by decide) rfl h (fun h => ?_) (fun h => ?_)
  · refine e_iload_n (pc' := 15) (i := 1) rfl rfl dX7_toldOf_14 rfl ?_
    refine e_iconst (v := 3) (pc' := 16) (by decide) dX7_toldOf_15 rfl ?_
    refine e_icmp_ne (tgt := 26) (pc' := 19) dX7_toldOf_16 (by decide) rfl h (fun h => ?_) (fun h => ?_)
    · refine e_iload_n (pc' := 27) (i := 1) rfl rfl dX7_toldOf_26 rfl ?_
      refine e_iconst (v := 4) (pc' := 28) (by decide) dX7_toldOf_27 rfl ?_
      refine e_icmp_ne (tgt := 40) (pc' := 31) dX7_toldOf_28 (by decide) rfl h (fun h => ?_) (fun h => ?_)
      · refine e_aload_n (pc' := 41) (i := 0) rfl rfl dX7_toldOf_40 rfl ?_
        refine e_getI (a := 59) (n := 946) (k0 := 2) (pc' := 44) dX7_toldOf_41 rfl rfl (Nat.le_of_ble_eq_true rfl) (Nat.le_of_ble_eq_true rfl) rfl mw_796 rfl ?_
        obtain rfl := g_re1 h
        exact e_iret dX7_toldOf_44
      · refine e_aload_n (pc' := 32) (i := 0) rfl rfl dX7_toldOf_31 rfl ?_
        refine e_getR (a := 59) (b := 60) (k0 := 0) (pc' := 35) dX7_toldOf_32 rfl rfl (Nat.le_of_ble_eq_true rfl) (Nat.le_of_ble_eq_true rfl) rfl mw_794 rfl ?_
        refine e_iconst (v := 0) (pc' := 36) (by decide) dX7_toldOf_35 rfl ?_
        refine e_iald (n := 129) (pc' := 37) dX7_toldOf_36 rfl rfl (Nat.le_of_ble_eq_true rfl) h (fun h => ?_)
        refine e_goto (tgt := 44) dX7_toldOf_37 (by decide) ?_
        obtain rfl := g_re1 h
        exact e_iret dX7_toldOf_44
    · refine e_aload_n (pc' := 20) (i := 0) rfl rfl dX7_toldOf_19 rfl ?_
      refine e_getI (a := 59) (n := 950) (k0 := 6) (pc' := 23) dX7_toldOf_20 rfl rfl (Nat.le_of_ble_eq_true rfl) (Nat.le_of_ble_eq_true rfl) rfl mw_800 rfl ?_
      refine e_goto (tgt := 44) dX7_toldOf_23 (by decide) ?_
      obtain rfl := g_re1 h
      exact e_iret dX7_toldOf_44
  · refine e_aload_n (pc' := 6) (i := 0) rfl rfl dX7_toldOf_5 rfl ?_
    refine e_getR (a := 59) (b := 63) (k0 := 4) (pc' := 9) dX7_toldOf_6 rfl rfl (Nat.le_of_ble_eq_true rfl) (Nat.le_of_ble_eq_true rfl) rfl mw_798 rfl ?_
    refine e_iload_n (pc' := 10) (i := 1) rfl rfl dX7_toldOf_9 rfl ?_
    refine e_iald (n := 3) (pc' := 11) dX7_toldOf_10 rfl rfl (Nat.le_of_ble_eq_true rfl) h (fun h => ?_)
    refine e_goto (tgt := 44) dX7_toldOf_11 (by decide) ?_
    obtain rfl := g_re1 h
    exact e_iret dX7_toldOf_44
set_option maxHeartbeats 4000000 in
set_option maxRecDepth 100000 in
theorem c_X7_told (a0 : Int32) {I : Nat → Int32} {A : Nat → Nat → Int32} {L : Nat → Int64} {t : Int32} {I' : Nat → Int32} {A' : Nat → Nat → Int32} {L' : Nat → Int64} (h : f_X7_told  a0 I A L = some (t, I', A', L')) : GM 70 yX7_told cX7_told 2 (some .int) 1 [.ref 59, .int a0] I A L (some (.int t), (I', A', L')) := by
  refine gm_of (n := 0) (lc := [some (.ref 59), some (.int a0)]) (by decide +kernel) rfl (fun _ => Nat.le_of_ble_eq_true rfl) ?_
  change Ev 70 RX7 cX7_told 2 (some .int) 1 0 [some (.ref 59), some (.int a0)] [] I A L _
  unfold f_X7_told at h
  refine e_iload_n (pc' := 1) (i := 1) rfl rfl dX7_told_0 rfl ?_
  refine e_iconst (v := 0) (pc' := 2) (by decide) dX7_told_1 rfl ?_
  refine e_iconst (v := 5) (pc' := 3) (by decide) dX7_told_2 rfl ?_
  obtain ⟨v2, hF1, h⟩ := g_bd_e h
  refine e_callS_i (pc' := 6) dX7_told_3 rfl mw_851 ms_X7_in rfl (Nat.le_of_ble_eq_true rfl) (Nat.le_of_ble_eq_true rfl) (c_X7_in _ _ _ hF1) rfl ?_
  refine e_if_eq (tgt := 17) (pc' := 9) dX7_told_6 (by decide) rfl h (fun h => ?_) (fun h => ?_)
  · refine e_aload_n (pc' := 18) (i := 0) rfl rfl dX7_told_17 rfl ?_
    refine e_bipush (v := (-2)) (pc' := 20) (by decide) dX7_told_18 rfl ?_
    obtain ⟨v7, I4, A5, L6, hF3, h⟩ := g_b2_e h
    refine e_callV_i (pc' := 23) dX7_told_20 rfl mw_854 mv_X7_refuses rfl (Nat.le_of_ble_eq_true rfl) (Nat.le_of_ble_eq_true rfl) rfl (Nat.le_of_ble_eq_true rfl) (Nat.le_of_ble_eq_true rfl) rfl (c_X7_refuses _ hF3) rfl ?_
    obtain ⟨rfl, rfl, rfl, rfl⟩ := g_re4 h
    exact e_iret dX7_told_23
  · refine e_aload_n (pc' := 10) (i := 0) rfl rfl dX7_told_9 rfl ?_
    refine e_iload_n (pc' := 11) (i := 1) rfl rfl dX7_told_10 rfl ?_
    obtain ⟨v9, hF8, h⟩ := g_bd_e h
    refine e_callV_i (pc' := 14) dX7_told_11 rfl mw_1112 mv_X7_toldOf rfl (Nat.le_of_ble_eq_true rfl) (Nat.le_of_ble_eq_true rfl) rfl (Nat.le_of_ble_eq_true rfl) (Nat.le_of_ble_eq_true rfl) rfl (c_X7_toldOf _ hF8) rfl ?_
    refine e_goto (tgt := 23) dX7_told_14 (by decide) ?_
    obtain ⟨rfl, rfl, rfl, rfl⟩ := g_re4 h
    exact e_iret dX7_told_23
set_option maxHeartbeats 4000000 in
set_option maxRecDepth 100000 in
theorem w_X7_digest_p176  (k165 : Int64 → Int32 → (Nat → Int32) → (Nat → Nat → Int32) → (Nat → Int64) → Option (Int64 × gS)) (hk165 : ∀ (x1 : Int64) (x3 : Int32) (I : Nat → Int32) (A : Nat → Nat → Int32) (L : Nat → Int64) (t : (Int64 × gS)), k165 x1 x3 I A L = some t → Ev 70 RX7 cX7_digest 6 (some .long) 5 165 [some (.ref 59), some (.long x1), none, some (.int x3), none, none] [] I A L (some (.long t.1), t.2)) : ∀ (n : Nat) (x1 : Int64) (x3 : Int32) (x4 : Int32) (I : Nat → Int32) (A : Nat → Nat → Int32) (L : Nat → Int64) (t : (Int64 × gS)), f_X7_digest_p176 k165 n x1 x3 x4 I A L = some t → Ev 70 RX7 cX7_digest 6 (some .long) 5 176 [some (.ref 59), some (.long x1), none, some (.int x3), some (.int x4), none] [] I A L (some (.long t.1), t.2) := by
  intro n
  induction n with
  | zero =>
    intro x1 x3 x4 I A L t h
    cases h
  | succ n ih =>
    intro x1 x3 x4 I A L t h
    rw [f_X7_digest_p176] at h
    refine e_iload (pc' := 178) (i := 4) rfl dX7_digest_176 rfl ?_
    refine e_iconst (v := 3) (pc' := 179) (by decide) dX7_digest_178 rfl ?_
    refine e_icmp_ge (tgt := 257) (pc' := 182) dX7_digest_179 (by decide) rfl h (fun h => ?_) (fun h => ?_)
    · refine e_iinc (pc' := 260) (v := (x3 + 1)) (lc' := [some (.ref 59), some (.long x1), none, some (.int (x3 + 1)), some (.int x4), none]) dX7_digest_257 rfl rfl rfl (Nat.le_of_ble_eq_true rfl) rfl rfl ?_
      refine e_goto (tgt := 165) dX7_digest_260 (by decide) ?_
      exact e_weak (lc' := [some (.ref 59), some (.long x1), none, some (.int (x3 + 1)), none, none]) (gle_s (gle_s (gle_n (gle_s (gle_n (gle_n gle_0)))))) (hk165 _ _ _ _ _ _ h)
    · refine e_aload_n (pc' := 183) (i := 0) rfl rfl dX7_digest_182 rfl ?_
      refine e_getR (a := 59) (b := 65) (k0 := 10) (pc' := 186) dX7_digest_183 rfl rfl (Nat.le_of_ble_eq_true rfl) (Nat.le_of_ble_eq_true rfl) rfl mw_804 rfl ?_
      refine e_iconst (v := 5) (pc' := 187) (by decide) dX7_digest_186 rfl ?_
      refine e_iload_n (pc' := 188) (i := 3) rfl rfl dX7_digest_187 rfl ?_
      refine e_imul (pc' := 189) dX7_digest_188 rfl ?_
      refine e_iload (pc' := 191) (i := 4) rfl dX7_digest_189 rfl ?_
      refine e_iadd (pc' := 192) dX7_digest_191 rfl ?_
      refine e_iald (n := 320) (pc' := 193) dX7_digest_192 rfl rfl (Nat.le_of_ble_eq_true rfl) h (fun h => ?_)
      refine e_aload_n (pc' := 194) (i := 0) rfl rfl dX7_digest_193 rfl ?_
      refine e_getR (a := 59) (b := 65) (k0 := 10) (pc' := 197) dX7_digest_194 rfl rfl (Nat.le_of_ble_eq_true rfl) (Nat.le_of_ble_eq_true rfl) rfl mw_804 rfl ?_
      refine e_iconst (v := 5) (pc' := 198) (by decide) dX7_digest_197 rfl ?_
      refine e_iload_n (pc' := 199) (i := 3) rfl rfl dX7_digest_198 rfl ?_
      refine e_imul (pc' := 200) dX7_digest_199 rfl ?_
      refine e_iconst (v := 3) (pc' := 201) (by decide) dX7_digest_200 rfl ?_
      refine e_iadd (pc' := 202) dX7_digest_201 rfl ?_
      refine e_iald (n := 320) (pc' := 203) dX7_digest_202 rfl rfl (Nat.le_of_ble_eq_true rfl) h (fun h => ?_)
      obtain ⟨v2, hF1, h⟩ := g_bd_e h
      refine e_callS_i (pc' := 206) dX7_digest_203 rfl mw_936 ms_X7_common rfl (Nat.le_of_ble_eq_true rfl) (Nat.le_of_ble_eq_true rfl) (c_X7_common _ _ hF1) rfl ?_
      refine e_istore (pc' := 208) (i := 5) (lc' := [some (.ref 59), some (.long x1), none, some (.int x3), some (.int x4), some (.int v2)]) dX7_digest_206 rfl (Nat.le_of_ble_eq_true rfl) rfl rfl ?_
      refine e_ldc2 (pc' := 211) mw_923 dX7_digest_208 rfl ?_
      refine e_lload_n (pc' := 212) (i := 1) rfl rfl dX7_digest_211 rfl ?_
      refine e_lmul (pc' := 213) dX7_digest_212 rfl ?_
      refine e_aload_n (pc' := 214) (i := 0) rfl rfl dX7_digest_213 rfl ?_
      refine e_getR (a := 59) (b := 65) (k0 := 10) (pc' := 217) dX7_digest_214 rfl rfl (Nat.le_of_ble_eq_true rfl) (Nat.le_of_ble_eq_true rfl) rfl mw_804 rfl ?_
      refine e_iconst (v := 5) (pc' := 218) (by decide) dX7_digest_217 rfl ?_
      refine e_iload_n (pc' := 219) (i := 3) rfl rfl dX7_digest_218 rfl ?_
      refine e_imul (pc' := 220) dX7_digest_219 rfl ?_
      refine e_iload (pc' := 222) (i := 4) rfl dX7_digest_220 rfl ?_
      refine e_iadd (pc' := 223) dX7_digest_222 rfl ?_
      refine e_iald (n := 320) (pc' := 224) dX7_digest_223 rfl rfl (Nat.le_of_ble_eq_true rfl) h (fun h => ?_)
      refine e_iload (pc' := 226) (i := 5) rfl dX7_digest_224 rfl ?_
      obtain ⟨hz3, h⟩ := g_dv_e h
      refine e_idiv (pc' := 227) hz3 dX7_digest_226 rfl ?_
      refine e_i2l (pc' := 228) dX7_digest_227 rfl ?_
      refine e_ladd (pc' := 229) dX7_digest_228 rfl ?_
      refine e_ltl h (fun v4 h => ?_)
      refine e_lstore_n (pc' := 230) (i := 1) (lc' := [some (.ref 59), some (.long v4), none, some (.int x3), some (.int x4), some (.int v2)]) rfl dX7_digest_229 rfl (Nat.le_of_ble_eq_true rfl) rfl rfl ?_
      refine e_ldc2 (pc' := 233) mw_923 dX7_digest_230 rfl ?_
      refine e_lload_n (pc' := 234) (i := 1) rfl rfl dX7_digest_233 rfl ?_
      refine e_lmul (pc' := 235) dX7_digest_234 rfl ?_
      refine e_aload_n (pc' := 236) (i := 0) rfl rfl dX7_digest_235 rfl ?_
      refine e_getR (a := 59) (b := 65) (k0 := 10) (pc' := 239) dX7_digest_236 rfl rfl (Nat.le_of_ble_eq_true rfl) (Nat.le_of_ble_eq_true rfl) rfl mw_804 rfl ?_
      refine e_iconst (v := 5) (pc' := 240) (by decide) dX7_digest_239 rfl ?_
      refine e_iload_n (pc' := 241) (i := 3) rfl rfl dX7_digest_240 rfl ?_
      refine e_imul (pc' := 242) dX7_digest_241 rfl ?_
      refine e_iconst (v := 3) (pc' := 243) (by decide) dX7_digest_242 rfl ?_
      refine e_iadd (pc' := 244) dX7_digest_243 rfl ?_
      refine e_iald (n := 320) (pc' := 245) dX7_digest_244 rfl rfl (Nat.le_of_ble_eq_true rfl) h (fun h => ?_)
      refine e_iload (pc' := 247) (i := 5) rfl dX7_digest_245 rfl ?_
      obtain ⟨hz5, h⟩ := g_dv_e h
      refine e_idiv (pc' := 248) hz5 dX7_digest_247 rfl ?_
      refine e_i2l (pc' := 249) dX7_digest_248 rfl ?_
      refine e_ladd (pc' := 250) dX7_digest_249 rfl ?_
      refine e_ltl h (fun v6 h => ?_)
      refine e_lstore_n (pc' := 251) (i := 1) (lc' := [some (.ref 59), some (.long v6), none, some (.int x3), some (.int x4), some (.int v2)]) rfl dX7_digest_250 rfl (Nat.le_of_ble_eq_true rfl) rfl rfl ?_
      refine e_iinc (pc' := 254) (v := (x4 + 1)) (lc' := [some (.ref 59), some (.long v6), none, some (.int x3), some (.int (x4 + 1)), some (.int v2)]) dX7_digest_251 rfl rfl rfl (Nat.le_of_ble_eq_true rfl) rfl rfl ?_
      refine e_goto (tgt := 176) dX7_digest_254 (by decide) ?_
      exact e_weak (lc' := [some (.ref 59), some (.long v6), none, some (.int x3), some (.int (x4 + 1)), none]) (gle_s (gle_s (gle_n (gle_s (gle_s (gle_n gle_0)))))) (ih _ _ _ _ _ _ _ h)
set_option maxHeartbeats 4000000 in
set_option maxRecDepth 100000 in
theorem w_X7_digest_p165  : ∀ (n : Nat) (x1 : Int64) (x3 : Int32) (I : Nat → Int32) (A : Nat → Nat → Int32) (L : Nat → Int64) (t : (Int64 × gS)), f_X7_digest_p165 n x1 x3 I A L = some t → Ev 70 RX7 cX7_digest 6 (some .long) 5 165 [some (.ref 59), some (.long x1), none, some (.int x3), none, none] [] I A L (some (.long t.1), t.2) := by
  intro n
  induction n with
  | zero =>
    intro x1 x3 I A L t h
    cases h
  | succ n ih =>
    intro x1 x3 I A L t h
    rw [f_X7_digest_p165] at h
    refine e_iload_n (pc' := 166) (i := 3) rfl rfl dX7_digest_165 rfl ?_
    refine e_aload_n (pc' := 167) (i := 0) rfl rfl dX7_digest_166 rfl ?_
    refine e_getI (a := 59) (n := 955) (k0 := 11) (pc' := 170) dX7_digest_167 rfl rfl (Nat.le_of_ble_eq_true rfl) (Nat.le_of_ble_eq_true rfl) rfl mw_805 rfl ?_
    refine e_icmp_ge (tgt := 263) (pc' := 173) dX7_digest_170 (by decide) rfl h (fun h => ?_) (fun h => ?_)
    · refine e_lload_n (pc' := 264) (i := 1) rfl rfl dX7_digest_263 rfl ?_
      obtain rfl := g_re1 h
      exact e_lret dX7_digest_264
    · refine e_iconst (v := 0) (pc' := 174) (by decide) dX7_digest_173 rfl ?_
      refine e_istore (pc' := 176) (i := 4) (lc' := [some (.ref 59), some (.long x1), none, some (.int x3), some (.int 0), none]) dX7_digest_174 rfl (Nat.le_of_ble_eq_true rfl) rfl rfl ?_
      exact e_weak (lc' := [some (.ref 59), some (.long x1), none, some (.int x3), some (.int 0), none]) (gle_s (gle_s (gle_n (gle_s (gle_s (gle_n gle_0)))))) (w_X7_digest_p176 _ ih _ _ _ _ _ _ _ _ h)
set_option maxHeartbeats 4000000 in
set_option maxRecDepth 100000 in
theorem w_X7_digest_p50  (k37 : Int64 → Int32 → (Nat → Int32) → (Nat → Nat → Int32) → (Nat → Int64) → Option (Int64 × gS)) (hk37 : ∀ (x1 : Int64) (x3 : Int32) (I : Nat → Int32) (A : Nat → Nat → Int32) (L : Nat → Int64) (t : (Int64 × gS)), k37 x1 x3 I A L = some t → Ev 70 RX7 cX7_digest 6 (some .long) 5 37 [some (.ref 59), some (.long x1), none, some (.int x3), none, none] [] I A L (some (.long t.1), t.2)) : ∀ (n : Nat) (x1 : Int64) (x3 : Int32) (x4 : Int32) (I : Nat → Int32) (A : Nat → Nat → Int32) (L : Nat → Int64) (t : (Int64 × gS)), f_X7_digest_p50 k37 n x1 x3 x4 I A L = some t → Ev 70 RX7 cX7_digest 6 (some .long) 5 50 [some (.ref 59), some (.long x1), none, some (.int x3), some (.int x4), none] [] I A L (some (.long t.1), t.2) := by
  intro n
  induction n with
  | zero =>
    intro x1 x3 x4 I A L t h
    cases h
  | succ n ih =>
    intro x1 x3 x4 I A L t h
    rw [f_X7_digest_p50] at h
    refine e_iload (pc' := 52) (i := 4) rfl dX7_digest_50 rfl ?_
    refine e_iconst (v := 4) (pc' := 53) (by decide) dX7_digest_52 rfl ?_
    refine e_icmp_ge (tgt := 77) (pc' := 56) dX7_digest_53 (by decide) rfl h (fun h => ?_) (fun h => ?_)
    · refine e_ldc2 (pc' := 80) mw_923 dX7_digest_77 rfl ?_
      refine e_lload_n (pc' := 81) (i := 1) rfl rfl dX7_digest_80 rfl ?_
      refine e_lmul (pc' := 82) dX7_digest_81 rfl ?_
      refine e_aload_n (pc' := 83) (i := 0) rfl rfl dX7_digest_82 rfl ?_
      refine e_getR (a := 59) (b := 66) (k0 := 12) (pc' := 86) dX7_digest_83 rfl rfl (Nat.le_of_ble_eq_true rfl) (Nat.le_of_ble_eq_true rfl) rfl mw_806 rfl ?_
      refine e_iload_n (pc' := 87) (i := 3) rfl rfl dX7_digest_86 rfl ?_
      refine e_zald (n := 32) (pc' := 88) dX7_digest_87 rfl rfl (Nat.le_of_ble_eq_true rfl) h (fun h => ?_)
      refine e_if_eq (tgt := 95) (pc' := 91) dX7_digest_88 (by decide) rfl h (fun h => ?_) (fun h => ?_)
      · refine e_iconst (v := 0) (pc' := 96) (by decide) dX7_digest_95 rfl ?_
        refine e_i2l (pc' := 97) dX7_digest_96 rfl ?_
        refine e_ladd (pc' := 98) dX7_digest_97 rfl ?_
        refine e_ltl h (fun v1 h => ?_)
        refine e_lstore_n (pc' := 99) (i := 1) (lc' := [some (.ref 59), some (.long v1), none, some (.int x3), some (.int x4), none]) rfl dX7_digest_98 rfl (Nat.le_of_ble_eq_true rfl) rfl rfl ?_
        refine e_iinc (pc' := 102) (v := (x3 + 1)) (lc' := [some (.ref 59), some (.long v1), none, some (.int (x3 + 1)), some (.int x4), none]) dX7_digest_99 rfl rfl rfl (Nat.le_of_ble_eq_true rfl) rfl rfl ?_
        refine e_goto (tgt := 37) dX7_digest_102 (by decide) ?_
        exact e_weak (lc' := [some (.ref 59), some (.long v1), none, some (.int (x3 + 1)), none, none]) (gle_s (gle_s (gle_n (gle_s (gle_n (gle_n gle_0)))))) (hk37 _ _ _ _ _ _ h)
      · refine e_iconst (v := 1) (pc' := 92) (by decide) dX7_digest_91 rfl ?_
        refine e_goto (tgt := 96) dX7_digest_92 (by decide) ?_
        refine e_i2l (pc' := 97) dX7_digest_96 rfl ?_
        refine e_ladd (pc' := 98) dX7_digest_97 rfl ?_
        refine e_ltl h (fun v2 h => ?_)
        refine e_lstore_n (pc' := 99) (i := 1) (lc' := [some (.ref 59), some (.long v2), none, some (.int x3), some (.int x4), none]) rfl dX7_digest_98 rfl (Nat.le_of_ble_eq_true rfl) rfl rfl ?_
        refine e_iinc (pc' := 102) (v := (x3 + 1)) (lc' := [some (.ref 59), some (.long v2), none, some (.int (x3 + 1)), some (.int x4), none]) dX7_digest_99 rfl rfl rfl (Nat.le_of_ble_eq_true rfl) rfl rfl ?_
        refine e_goto (tgt := 37) dX7_digest_102 (by decide) ?_
        exact e_weak (lc' := [some (.ref 59), some (.long v2), none, some (.int (x3 + 1)), none, none]) (gle_s (gle_s (gle_n (gle_s (gle_n (gle_n gle_0)))))) (hk37 _ _ _ _ _ _ h)
    · refine e_ldc2 (pc' := 59) mw_923 dX7_digest_56 rfl ?_
      refine e_lload_n (pc' := 60) (i := 1) rfl rfl dX7_digest_59 rfl ?_
      refine e_lmul (pc' := 61) dX7_digest_60 rfl ?_
      refine e_aload_n (pc' := 62) (i := 0) rfl rfl dX7_digest_61 rfl ?_
      refine e_iload_n (pc' := 63) (i := 3) rfl rfl dX7_digest_62 rfl ?_
      refine e_iload (pc' := 65) (i := 4) rfl dX7_digest_63 rfl ?_
      obtain ⟨v4, hF3, h⟩ := g_bd_e h
      refine e_callV_i (pc' := 68) dX7_digest_65 rfl mw_894 mv_X7_get rfl (Nat.le_of_ble_eq_true rfl) (Nat.le_of_ble_eq_true rfl) rfl (Nat.le_of_ble_eq_true rfl) (Nat.le_of_ble_eq_true rfl) rfl (c_X7_get _ _ hF3) rfl ?_
      refine e_i2l (pc' := 69) dX7_digest_68 rfl ?_
      refine e_ladd (pc' := 70) dX7_digest_69 rfl ?_
      refine e_ltl h (fun v5 h => ?_)
      refine e_lstore_n (pc' := 71) (i := 1) (lc' := [some (.ref 59), some (.long v5), none, some (.int x3), some (.int x4), none]) rfl dX7_digest_70 rfl (Nat.le_of_ble_eq_true rfl) rfl rfl ?_
      refine e_iinc (pc' := 74) (v := (x4 + 1)) (lc' := [some (.ref 59), some (.long v5), none, some (.int x3), some (.int (x4 + 1)), none]) dX7_digest_71 rfl rfl rfl (Nat.le_of_ble_eq_true rfl) rfl rfl ?_
      refine e_goto (tgt := 50) dX7_digest_74 (by decide) ?_
      exact e_weak (lc' := [some (.ref 59), some (.long v5), none, some (.int x3), some (.int (x4 + 1)), none]) (gle_s (gle_s (gle_n (gle_s (gle_s (gle_n gle_0)))))) (ih _ _ _ _ _ _ _ h)
set_option maxHeartbeats 4000000 in
set_option maxRecDepth 100000 in
theorem w_X7_digest_p37  : ∀ (n : Nat) (x1 : Int64) (x3 : Int32) (I : Nat → Int32) (A : Nat → Nat → Int32) (L : Nat → Int64) (t : (Int64 × gS)), f_X7_digest_p37 n x1 x3 I A L = some t → Ev 70 RX7 cX7_digest 6 (some .long) 5 37 [some (.ref 59), some (.long x1), none, some (.int x3), none, none] [] I A L (some (.long t.1), t.2) := by
  intro n
  induction n with
  | zero =>
    intro x1 x3 I A L t h
    cases h
  | succ n ih =>
    intro x1 x3 I A L t h
    rw [f_X7_digest_p37] at h
    refine e_iload_n (pc' := 38) (i := 3) rfl rfl dX7_digest_37 rfl ?_
    refine e_aload_n (pc' := 39) (i := 0) rfl rfl dX7_digest_38 rfl ?_
    refine e_getR (a := 59) (b := 60) (k0 := 0) (pc' := 42) dX7_digest_39 rfl rfl (Nat.le_of_ble_eq_true rfl) (Nat.le_of_ble_eq_true rfl) rfl mw_794 rfl ?_
    refine e_iconst (v := 0) (pc' := 43) (by decide) dX7_digest_42 rfl ?_
    refine e_iald (n := 129) (pc' := 44) dX7_digest_43 rfl rfl (Nat.le_of_ble_eq_true rfl) h (fun h => ?_)
    refine e_icmp_ge (tgt := 105) (pc' := 47) dX7_digest_44 (by decide) rfl h (fun h => ?_) (fun h => ?_)
    · refine e_ldc2 (pc' := 108) mw_923 dX7_digest_105 rfl ?_
      refine e_lload_n (pc' := 109) (i := 1) rfl rfl dX7_digest_108 rfl ?_
      refine e_lmul (pc' := 110) dX7_digest_109 rfl ?_
      refine e_aload_n (pc' := 111) (i := 0) rfl rfl dX7_digest_110 rfl ?_
      obtain ⟨v2, hF1, h⟩ := g_bd_e h
      refine e_callV_i (pc' := 114) dX7_digest_111 rfl mw_991 mv_X7_showing rfl (Nat.le_of_ble_eq_true rfl) (Nat.le_of_ble_eq_true rfl) rfl (Nat.le_of_ble_eq_true rfl) (Nat.le_of_ble_eq_true rfl) rfl (c_X7_showing hF1) rfl ?_
      refine e_i2l (pc' := 115) dX7_digest_114 rfl ?_
      refine e_ladd (pc' := 116) dX7_digest_115 rfl ?_
      refine e_ltl h (fun v3 h => ?_)
      refine e_lstore_n (pc' := 117) (i := 1) (lc' := [some (.ref 59), some (.long v3), none, some (.int x3), none, none]) rfl dX7_digest_116 rfl (Nat.le_of_ble_eq_true rfl) rfl rfl ?_
      refine e_ldc2 (pc' := 120) mw_923 dX7_digest_117 rfl ?_
      refine e_lload_n (pc' := 121) (i := 1) rfl rfl dX7_digest_120 rfl ?_
      refine e_lmul (pc' := 122) dX7_digest_121 rfl ?_
      refine e_aload_n (pc' := 123) (i := 0) rfl rfl dX7_digest_122 rfl ?_
      refine e_getI (a := 59) (n := 955) (k0 := 11) (pc' := 126) dX7_digest_123 rfl rfl (Nat.le_of_ble_eq_true rfl) (Nat.le_of_ble_eq_true rfl) rfl mw_805 rfl ?_
      refine e_i2l (pc' := 127) dX7_digest_126 rfl ?_
      refine e_ladd (pc' := 128) dX7_digest_127 rfl ?_
      refine e_ltl h (fun v4 h => ?_)
      refine e_lstore_n (pc' := 129) (i := 1) (lc' := [some (.ref 59), some (.long v4), none, some (.int x3), none, none]) rfl dX7_digest_128 rfl (Nat.le_of_ble_eq_true rfl) rfl rfl ?_
      refine e_ldc2 (pc' := 132) mw_923 dX7_digest_129 rfl ?_
      refine e_lload_n (pc' := 133) (i := 1) rfl rfl dX7_digest_132 rfl ?_
      refine e_lmul (pc' := 134) dX7_digest_133 rfl ?_
      refine e_aload_n (pc' := 135) (i := 0) rfl rfl dX7_digest_134 rfl ?_
      obtain ⟨v6, hF5, h⟩ := g_bd_e h
      refine e_callV_i (pc' := 138) dX7_digest_135 rfl mw_995 mv_X7_edges rfl (Nat.le_of_ble_eq_true rfl) (Nat.le_of_ble_eq_true rfl) rfl (Nat.le_of_ble_eq_true rfl) (Nat.le_of_ble_eq_true rfl) rfl (c_X7_edges hF5) rfl ?_
      refine e_i2l (pc' := 139) dX7_digest_138 rfl ?_
      refine e_ladd (pc' := 140) dX7_digest_139 rfl ?_
      refine e_ltl h (fun v7 h => ?_)
      refine e_lstore_n (pc' := 141) (i := 1) (lc' := [some (.ref 59), some (.long v7), none, some (.int x3), none, none]) rfl dX7_digest_140 rfl (Nat.le_of_ble_eq_true rfl) rfl rfl ?_
      refine e_ldc2 (pc' := 144) mw_923 dX7_digest_141 rfl ?_
      refine e_lload_n (pc' := 145) (i := 1) rfl rfl dX7_digest_144 rfl ?_
      refine e_lmul (pc' := 146) dX7_digest_145 rfl ?_
      refine e_aload_n (pc' := 147) (i := 0) rfl rfl dX7_digest_146 rfl ?_
      refine e_getL (a := 59) (n := 952) (k0 := 8) (pc' := 150) dX7_digest_147 rfl rfl (Nat.le_of_ble_eq_true rfl) (Nat.le_of_ble_eq_true rfl) rfl mw_802 rfl ?_
      refine e_ladd (pc' := 151) dX7_digest_150 rfl ?_
      refine e_ltl h (fun v8 h => ?_)
      refine e_lstore_n (pc' := 152) (i := 1) (lc' := [some (.ref 59), some (.long v8), none, some (.int x3), none, none]) rfl dX7_digest_151 rfl (Nat.le_of_ble_eq_true rfl) rfl rfl ?_
      refine e_ldc2 (pc' := 155) mw_923 dX7_digest_152 rfl ?_
      refine e_lload_n (pc' := 156) (i := 1) rfl rfl dX7_digest_155 rfl ?_
      refine e_lmul (pc' := 157) dX7_digest_156 rfl ?_
      refine e_aload_n (pc' := 158) (i := 0) rfl rfl dX7_digest_157 rfl ?_
      refine e_getL (a := 59) (n := 953) (k0 := 9) (pc' := 161) dX7_digest_158 rfl rfl (Nat.le_of_ble_eq_true rfl) (Nat.le_of_ble_eq_true rfl) rfl mw_803 rfl ?_
      refine e_ladd (pc' := 162) dX7_digest_161 rfl ?_
      refine e_ltl h (fun v9 h => ?_)
      refine e_lstore_n (pc' := 163) (i := 1) (lc' := [some (.ref 59), some (.long v9), none, some (.int x3), none, none]) rfl dX7_digest_162 rfl (Nat.le_of_ble_eq_true rfl) rfl rfl ?_
      refine e_iconst (v := 0) (pc' := 164) (by decide) dX7_digest_163 rfl ?_
      refine e_istore_n (pc' := 165) (i := 3) (lc' := [some (.ref 59), some (.long v9), none, some (.int 0), none, none]) rfl dX7_digest_164 rfl (Nat.le_of_ble_eq_true rfl) rfl rfl ?_
      exact e_weak (lc' := [some (.ref 59), some (.long v9), none, some (.int 0), none, none]) (gle_s (gle_s (gle_n (gle_s (gle_n (gle_n gle_0)))))) (w_X7_digest_p165  _ _ _ _ _ _ _ h)
    · refine e_iconst (v := 0) (pc' := 48) (by decide) dX7_digest_47 rfl ?_
      refine e_istore (pc' := 50) (i := 4) (lc' := [some (.ref 59), some (.long x1), none, some (.int x3), some (.int 0), none]) dX7_digest_48 rfl (Nat.le_of_ble_eq_true rfl) rfl rfl ?_
      exact e_weak (lc' := [some (.ref 59), some (.long x1), none, some (.int x3), some (.int 0), none]) (gle_s (gle_s (gle_n (gle_s (gle_s (gle_n gle_0)))))) (w_X7_digest_p50 _ ih _ _ _ _ _ _ _ _ h)
set_option maxHeartbeats 4000000 in
set_option maxRecDepth 100000 in
theorem w_X7_digest_p6  : ∀ (n : Nat) (x1 : Int64) (x3 : Int32) (I : Nat → Int32) (A : Nat → Nat → Int32) (L : Nat → Int64) (t : (Int64 × gS)), f_X7_digest_p6 n x1 x3 I A L = some t → Ev 70 RX7 cX7_digest 6 (some .long) 5 6 [some (.ref 59), some (.long x1), none, some (.int x3), none, none] [] I A L (some (.long t.1), t.2) := by
  intro n
  induction n with
  | zero =>
    intro x1 x3 I A L t h
    cases h
  | succ n ih =>
    intro x1 x3 I A L t h
    rw [f_X7_digest_p6] at h
    refine e_iload_n (pc' := 7) (i := 3) rfl rfl dX7_digest_6 rfl ?_
    refine e_bipush (v := 6) (pc' := 9) (by decide) dX7_digest_7 rfl ?_
    refine e_icmp_ge (tgt := 31) (pc' := 12) dX7_digest_9 (by decide) rfl h (fun h => ?_) (fun h => ?_)
    · refine e_aload_n (pc' := 32) (i := 0) rfl rfl dX7_digest_31 rfl ?_
      obtain ⟨I2, A3, L4, hF1, h⟩ := g_b1_e h
      refine e_callV_v (pc' := 35) dX7_digest_32 rfl mw_924 mv_X7_lays rfl (Nat.le_of_ble_eq_true rfl) (Nat.le_of_ble_eq_true rfl) rfl (Nat.le_of_ble_eq_true rfl) (Nat.le_of_ble_eq_true rfl) rfl (c_X7_lays hF1) rfl ?_
      refine e_iconst (v := 0) (pc' := 36) (by decide) dX7_digest_35 rfl ?_
      refine e_istore_n (pc' := 37) (i := 3) (lc' := [some (.ref 59), some (.long x1), none, some (.int 0), none, none]) rfl dX7_digest_36 rfl (Nat.le_of_ble_eq_true rfl) rfl rfl ?_
      exact e_weak (lc' := [some (.ref 59), some (.long x1), none, some (.int 0), none, none]) (gle_s (gle_s (gle_n (gle_s (gle_n (gle_n gle_0)))))) (w_X7_digest_p37  _ _ _ _ _ _ _ h)
    · refine e_ldc2 (pc' := 15) mw_923 dX7_digest_12 rfl ?_
      refine e_lload_n (pc' := 16) (i := 1) rfl rfl dX7_digest_15 rfl ?_
      refine e_lmul (pc' := 17) dX7_digest_16 rfl ?_
      refine e_aload_n (pc' := 18) (i := 0) rfl rfl dX7_digest_17 rfl ?_
      refine e_iload_n (pc' := 19) (i := 3) rfl rfl dX7_digest_18 rfl ?_
      obtain ⟨v6, hF5, h⟩ := g_bd_e h
      refine e_callV_i (pc' := 22) dX7_digest_19 rfl mw_1112 mv_X7_toldOf rfl (Nat.le_of_ble_eq_true rfl) (Nat.le_of_ble_eq_true rfl) rfl (Nat.le_of_ble_eq_true rfl) (Nat.le_of_ble_eq_true rfl) rfl (c_X7_toldOf _ hF5) rfl ?_
      refine e_i2l (pc' := 23) dX7_digest_22 rfl ?_
      refine e_ladd (pc' := 24) dX7_digest_23 rfl ?_
      refine e_ltl h (fun v7 h => ?_)
      refine e_lstore_n (pc' := 25) (i := 1) (lc' := [some (.ref 59), some (.long v7), none, some (.int x3), none, none]) rfl dX7_digest_24 rfl (Nat.le_of_ble_eq_true rfl) rfl rfl ?_
      refine e_iinc (pc' := 28) (v := (x3 + 1)) (lc' := [some (.ref 59), some (.long v7), none, some (.int (x3 + 1)), none, none]) dX7_digest_25 rfl rfl rfl (Nat.le_of_ble_eq_true rfl) rfl rfl ?_
      refine e_goto (tgt := 6) dX7_digest_28 (by decide) ?_
      exact e_weak (lc' := [some (.ref 59), some (.long v7), none, some (.int (x3 + 1)), none, none]) (gle_s (gle_s (gle_n (gle_s (gle_n (gle_n gle_0)))))) (ih _ _ _ _ _ _ h)
set_option maxHeartbeats 4000000 in
set_option maxRecDepth 100000 in
theorem c_X7_digest  {I : Nat → Int32} {A : Nat → Nat → Int32} {L : Nat → Int64} {t : Int64} {I' : Nat → Int32} {A' : Nat → Nat → Int32} {L' : Nat → Int64} (h : f_X7_digest   I A L = some (t, I', A', L')) : GM 70 yX7_digest cX7_digest 6 (some .long) 5 [.ref 59] I A L (some (.long t), (I', A', L')) := by
  refine gm_of (n := 5) (lc := [some (.ref 59), none, none, none, none, none]) (by decide +kernel) rfl (fun _ => Nat.le_of_ble_eq_true rfl) ?_
  change Ev 70 RX7 cX7_digest 6 (some .long) 5 0 [some (.ref 59), none, none, none, none, none] [] I A L _
  unfold f_X7_digest at h
  refine e_ldc2 (pc' := 3) mw_1120 dX7_digest_0 rfl ?_
  refine e_lstore_n (pc' := 4) (i := 1) (lc' := [some (.ref 59), some (.long 2179), none, none, none, none]) rfl dX7_digest_3 rfl (Nat.le_of_ble_eq_true rfl) rfl rfl ?_
  refine e_iconst (v := 0) (pc' := 5) (by decide) dX7_digest_4 rfl ?_
  refine e_istore_n (pc' := 6) (i := 3) (lc' := [some (.ref 59), some (.long 2179), none, some (.int 0), none, none]) rfl dX7_digest_5 rfl (Nat.le_of_ble_eq_true rfl) rfl rfl ?_
  exact e_weak (lc' := [some (.ref 59), some (.long 2179), none, some (.int 0), none, none]) (gle_s (gle_s (gle_n (gle_s (gle_n (gle_n gle_0)))))) (w_X7_digest_p6  _ _ _ _ _ _ _ h)
