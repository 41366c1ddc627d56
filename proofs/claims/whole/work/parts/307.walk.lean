set_option maxHeartbeats 4000000 in
set_option maxRecDepth 100000 in
theorem w_X3_readAll_6_54_p7  : ∀ (n : Nat) (x3 : Int32) (I : Nat → Int32) (A : Nat → Nat → Int32) (L : Nat → Int64) (t : (Int32 × gS)), f_X3_readAll_p7 6 54 n x3 I A L = some t → Ev 70 RX3 cX3_readAll 4 (some .boolean) 5 7 [some (.ref 57), some (.ref 6), some (.ref 54), some (.int x3)] [] I A L (some (.int t.1), t.2) := by
  intro n
  induction n with
  | zero =>
    intro x3 I A L t h
    cases h
  | succ n ih =>
    intro x3 I A L t h
    rw [f_X3_readAll_p7] at h
    refine e_iload_n (pc' := 8) (i := 3) rfl rfl dX3_readAll_7 rfl ?_
    refine e_bipush (v := 120) (pc' := 10) (by decide) dX3_readAll_8 rfl ?_
    refine e_icmp_ge (tgt := 40) (pc' := 13) dX3_readAll_10 (by decide) rfl h (fun h => ?_) (fun h => ?_)
    · refine e_iconst (v := 0) (pc' := 41) (by decide) dX3_readAll_40 rfl ?_
      obtain rfl := g_re1 h
      exact e_zret dX3_readAll_41 (by decide)
    · refine e_aload_n (pc' := 14) (i := 0) rfl rfl dX3_readAll_13 rfl ?_
      refine e_aload_n (pc' := 15) (i := 1) rfl rfl dX3_readAll_14 rfl ?_
      refine e_aload_n (pc' := 16) (i := 2) rfl rfl dX3_readAll_15 rfl ?_
      obtain ⟨v5, I2, A3, L4, hF1, h⟩ := g_b2_e h
      refine e_callV_i (pc' := 19) dX3_readAll_16 rfl mw_725 mv_X3_readOne rfl (Nat.le_of_ble_eq_true rfl) (Nat.le_of_ble_eq_true rfl) rfl (Nat.le_of_ble_eq_true rfl) (Nat.le_of_ble_eq_true rfl) rfl (c_X3_readOne_6_54 hF1) rfl ?_
      refine e_if_ne (tgt := 24) (pc' := 22) dX3_readAll_19 (by decide) rfl h (fun h => ?_) (fun h => ?_)
      · refine e_aload_n (pc' := 25) (i := 0) rfl rfl dX3_readAll_24 rfl ?_
        obtain ⟨v10, I7, A8, L9, hF6, h⟩ := g_b2_e h
        refine e_callV_i (pc' := 28) dX3_readAll_25 rfl mw_737 mv_X3_look rfl (Nat.le_of_ble_eq_true rfl) (Nat.le_of_ble_eq_true rfl) rfl (Nat.le_of_ble_eq_true rfl) (Nat.le_of_ble_eq_true rfl) rfl (c_X3_look hF6) rfl ?_
        refine e_iconst (v := (-1)) (pc' := 29) (by decide) dX3_readAll_28 rfl ?_
        refine e_icmp_ne (tgt := 34) (pc' := 32) dX3_readAll_29 (by decide) rfl h (fun h => ?_) (fun h => ?_)
        · refine e_iinc (pc' := 37) (v := (x3 + 1)) (lc' := [some (.ref 57), some (.ref 6), some (.ref 54), some (.int (x3 + 1))]) dX3_readAll_34 rfl rfl rfl (Nat.le_of_ble_eq_true rfl) rfl rfl ?_
          refine e_goto (tgt := 7) dX3_readAll_37 (by decide) ?_
          exact e_weak (lc' := [some (.ref 57), some (.ref 6), some (.ref 54), some (.int (x3 + 1))]) (gle_s (gle_s (gle_s (gle_s gle_0)))) (ih _ _ _ _ _ h)
        · refine e_iconst (v := 1) (pc' := 33) (by decide) dX3_readAll_32 rfl ?_
          obtain rfl := g_re1 h
          exact e_zret dX3_readAll_33 (by decide)
      · refine e_iconst (v := 0) (pc' := 23) (by decide) dX3_readAll_22 rfl ?_
        obtain rfl := g_re1 h
        exact e_zret dX3_readAll_23 (by decide)
set_option maxHeartbeats 4000000 in
set_option maxRecDepth 100000 in
theorem c_X3_readAll_6_54  {I : Nat → Int32} {A : Nat → Nat → Int32} {L : Nat → Int64} {t : Int32} {I' : Nat → Int32} {A' : Nat → Nat → Int32} {L' : Nat → Int64} (h : f_X3_readAll 6 54  I A L = some (t, I', A', L')) : GM 70 yX3_readAll cX3_readAll 4 (some .boolean) 5 [.ref 57, .ref 6, .ref 54] I A L (some (.int t), (I', A', L')) := by
  refine gm_of (n := 1) (lc := [some (.ref 57), some (.ref 6), some (.ref 54), none]) (by decide +kernel) rfl (fun _ => Nat.le_of_ble_eq_true rfl) ?_
  change Ev 70 RX3 cX3_readAll 4 (some .boolean) 5 0 [some (.ref 57), some (.ref 6), some (.ref 54), none] [] I A L _
  unfold f_X3_readAll at h
  refine e_aload_n (pc' := 1) (i := 0) rfl rfl dX3_readAll_0 rfl ?_
  refine e_iconst (v := 0) (pc' := 2) (by decide) dX3_readAll_1 rfl ?_
  refine e_putI (a := 57) (n := 914) (k0 := 2) (pc' := 5) dX3_readAll_2 rfl rfl (Nat.le_of_ble_eq_true rfl) (Nat.le_of_ble_eq_true rfl) rfl mw_300 rfl rfl g_pI rfl rfl ?_
  refine e_ltI h (fun I1 h => ?_)
  refine e_iconst (v := 0) (pc' := 6) (by decide) dX3_readAll_5 rfl ?_
  refine e_istore_n (pc' := 7) (i := 3) (lc' := [some (.ref 57), some (.ref 6), some (.ref 54), some (.int 0)]) rfl dX3_readAll_6 rfl (Nat.le_of_ble_eq_true rfl) rfl rfl ?_
  exact e_weak (lc' := [some (.ref 57), some (.ref 6), some (.ref 54), some (.int 0)]) (gle_s (gle_s (gle_s (gle_s gle_0)))) (w_X3_readAll_6_54_p7  _ _ _ _ _ _ h)
set_option maxHeartbeats 4000000 in
set_option maxRecDepth 100000 in
theorem c_X2_copyFrom_1_6  {I : Nat → Int32} {A : Nat → Nat → Int32} {L : Nat → Int64} {I' : Nat → Int32} {A' : Nat → Nat → Int32} {L' : Nat → Int64} (h : f_X2_copyFrom 1 6  I A L = some (I', A', L')) : GM 70 yX2_copyFrom cX2_copyFrom 2 none 1 [.ref 1, .ref 6] I A L (none, (I', A', L')) := by
  refine gm_of (n := 0) (lc := [some (.ref 1), some (.ref 6)]) (by decide +kernel) rfl (fun _ => Nat.le_of_ble_eq_true rfl) ?_
  change Ev 70 RX2 cX2_copyFrom 2 none 1 0 [some (.ref 1), some (.ref 6)] [] I A L _
  unfold f_X2_copyFrom at h
  refine e_aload_n (pc' := 1) (i := 1) rfl rfl dX2_copyFrom_0 rfl ?_
  refine e_ifnonnull (tgt := 5) dX2_copyFrom_1 (by decide) ?_
  refine e_aload_n (pc' := 6) (i := 0) rfl rfl dX2_copyFrom_5 rfl ?_
  refine e_aload_n (pc' := 7) (i := 1) rfl rfl dX2_copyFrom_6 rfl ?_
  refine e_getI (a := 6) (n := 100) (k0 := 4) (pc' := 10) dX2_copyFrom_7 rfl rfl (Nat.le_of_ble_eq_true rfl) (Nat.le_of_ble_eq_true rfl) rfl mw_142 rfl ?_
  refine e_putI (a := 1) (n := 20) (k0 := 4) (pc' := 13) dX2_copyFrom_10 rfl rfl (Nat.le_of_ble_eq_true rfl) (Nat.le_of_ble_eq_true rfl) rfl mw_142 rfl rfl g_pI rfl rfl ?_
  refine e_ltI h (fun I1 h => ?_)
  refine e_aload_n (pc' := 14) (i := 1) rfl rfl dX2_copyFrom_13 rfl ?_
  refine e_getR (a := 6) (b := 7) (k0 := 0) (pc' := 17) dX2_copyFrom_14 rfl rfl (Nat.le_of_ble_eq_true rfl) (Nat.le_of_ble_eq_true rfl) rfl mw_126 rfl ?_
  refine e_iconst (v := 0) (pc' := 18) (by decide) dX2_copyFrom_17 rfl ?_
  refine e_aload_n (pc' := 19) (i := 0) rfl rfl dX2_copyFrom_18 rfl ?_
  refine e_getR (a := 1) (b := 2) (k0 := 0) (pc' := 22) dX2_copyFrom_19 rfl rfl (Nat.le_of_ble_eq_true rfl) (Nat.le_of_ble_eq_true rfl) rfl mw_126 rfl ?_
  refine e_iconst (v := 0) (pc' := 23) (by decide) dX2_copyFrom_22 rfl ?_
  refine e_aload_n (pc' := 24) (i := 0) rfl rfl dX2_copyFrom_23 rfl ?_
  refine e_getI (a := 1) (n := 20) (k0 := 4) (pc' := 27) dX2_copyFrom_24 rfl rfl (Nat.le_of_ble_eq_true rfl) (Nat.le_of_ble_eq_true rfl) rfl mw_142 rfl ?_
  refine e_copy (pc' := 30) (n0 := 32) (n1 := 32) dX2_copyFrom_27 rfl mw_417 mw_419 mw_418 mw_108 (Nat.le_of_ble_eq_true rfl) (Nat.le_of_ble_eq_true rfl) rfl (Nat.le_of_ble_eq_true rfl) rfl (Nat.le_of_ble_eq_true rfl) h (fun h => ?_)
  refine e_ltA h (fun A2 h => ?_)
  refine e_aload_n (pc' := 31) (i := 1) rfl rfl dX2_copyFrom_30 rfl ?_
  refine e_getR (a := 6) (b := 8) (k0 := 1) (pc' := 34) dX2_copyFrom_31 rfl rfl (Nat.le_of_ble_eq_true rfl) (Nat.le_of_ble_eq_true rfl) rfl mw_130 rfl ?_
  refine e_iconst (v := 0) (pc' := 35) (by decide) dX2_copyFrom_34 rfl ?_
  refine e_aload_n (pc' := 36) (i := 0) rfl rfl dX2_copyFrom_35 rfl ?_
  refine e_getR (a := 1) (b := 3) (k0 := 1) (pc' := 39) dX2_copyFrom_36 rfl rfl (Nat.le_of_ble_eq_true rfl) (Nat.le_of_ble_eq_true rfl) rfl mw_130 rfl ?_
  refine e_iconst (v := 0) (pc' := 40) (by decide) dX2_copyFrom_39 rfl ?_
  refine e_aload_n (pc' := 41) (i := 0) rfl rfl dX2_copyFrom_40 rfl ?_
  refine e_getI (a := 1) (n := 20) (k0 := 4) (pc' := 44) dX2_copyFrom_41 rfl rfl (Nat.le_of_ble_eq_true rfl) (Nat.le_of_ble_eq_true rfl) rfl mw_142 rfl ?_
  refine e_copy (pc' := 47) (n0 := 32) (n1 := 32) dX2_copyFrom_44 rfl mw_417 mw_419 mw_418 mw_108 (Nat.le_of_ble_eq_true rfl) (Nat.le_of_ble_eq_true rfl) rfl (Nat.le_of_ble_eq_true rfl) rfl (Nat.le_of_ble_eq_true rfl) h (fun h => ?_)
  refine e_ltA h (fun A3 h => ?_)
  refine e_aload_n (pc' := 48) (i := 1) rfl rfl dX2_copyFrom_47 rfl ?_
  refine e_getR (a := 6) (b := 9) (k0 := 2) (pc' := 51) dX2_copyFrom_48 rfl rfl (Nat.le_of_ble_eq_true rfl) (Nat.le_of_ble_eq_true rfl) rfl mw_134 rfl ?_
  refine e_iconst (v := 0) (pc' := 52) (by decide) dX2_copyFrom_51 rfl ?_
  refine e_aload_n (pc' := 53) (i := 0) rfl rfl dX2_copyFrom_52 rfl ?_
  refine e_getR (a := 1) (b := 4) (k0 := 2) (pc' := 56) dX2_copyFrom_53 rfl rfl (Nat.le_of_ble_eq_true rfl) (Nat.le_of_ble_eq_true rfl) rfl mw_134 rfl ?_
  refine e_iconst (v := 0) (pc' := 57) (by decide) dX2_copyFrom_56 rfl ?_
  refine e_aload_n (pc' := 58) (i := 0) rfl rfl dX2_copyFrom_57 rfl ?_
  refine e_getI (a := 1) (n := 20) (k0 := 4) (pc' := 61) dX2_copyFrom_58 rfl rfl (Nat.le_of_ble_eq_true rfl) (Nat.le_of_ble_eq_true rfl) rfl mw_142 rfl ?_
  refine e_copy (pc' := 64) (n0 := 32) (n1 := 32) dX2_copyFrom_61 rfl mw_417 mw_419 mw_418 mw_108 (Nat.le_of_ble_eq_true rfl) (Nat.le_of_ble_eq_true rfl) rfl (Nat.le_of_ble_eq_true rfl) rfl (Nat.le_of_ble_eq_true rfl) h (fun h => ?_)
  refine e_ltA h (fun A4 h => ?_)
  refine e_aload_n (pc' := 65) (i := 1) rfl rfl dX2_copyFrom_64 rfl ?_
  refine e_getR (a := 6) (b := 10) (k0 := 3) (pc' := 68) dX2_copyFrom_65 rfl rfl (Nat.le_of_ble_eq_true rfl) (Nat.le_of_ble_eq_true rfl) rfl mw_138 rfl ?_
  refine e_iconst (v := 0) (pc' := 69) (by decide) dX2_copyFrom_68 rfl ?_
  refine e_aload_n (pc' := 70) (i := 0) rfl rfl dX2_copyFrom_69 rfl ?_
  refine e_getR (a := 1) (b := 5) (k0 := 3) (pc' := 73) dX2_copyFrom_70 rfl rfl (Nat.le_of_ble_eq_true rfl) (Nat.le_of_ble_eq_true rfl) rfl mw_138 rfl ?_
  refine e_iconst (v := 0) (pc' := 74) (by decide) dX2_copyFrom_73 rfl ?_
  refine e_aload_n (pc' := 75) (i := 0) rfl rfl dX2_copyFrom_74 rfl ?_
  refine e_getI (a := 1) (n := 20) (k0 := 4) (pc' := 78) dX2_copyFrom_75 rfl rfl (Nat.le_of_ble_eq_true rfl) (Nat.le_of_ble_eq_true rfl) rfl mw_142 rfl ?_
  refine e_copy (pc' := 81) (n0 := 32) (n1 := 32) dX2_copyFrom_78 rfl mw_417 mw_419 mw_418 mw_108 (Nat.le_of_ble_eq_true rfl) (Nat.le_of_ble_eq_true rfl) rfl (Nat.le_of_ble_eq_true rfl) rfl (Nat.le_of_ble_eq_true rfl) h (fun h => ?_)
  refine e_ltA h (fun A5 h => ?_)
  obtain ⟨rfl, rfl, rfl⟩ := g_re3 h
  exact e_vret dX2_copyFrom_81
set_option maxHeartbeats 4000000 in
set_option maxRecDepth 100000 in
theorem c_X6_reads  {I : Nat → Int32} {A : Nat → Nat → Int32} {L : Nat → Int64} {t : Int32} {I' : Nat → Int32} {A' : Nat → Nat → Int32} {L' : Nat → Int64} (h : f_X6_reads   I A L = some (t, I', A', L')) : GM 70 yX6_reads cX6_reads 2 (some .int) 6 [.ref 0] I A L (some (.int t), (I', A', L')) := by
  refine gm_of (n := 1) (lc := [some (.ref 0), none]) (by decide +kernel) rfl (fun _ => Nat.le_of_ble_eq_true rfl) ?_
  change Ev 70 RX6 cX6_reads 2 (some .int) 6 0 [some (.ref 0), none] [] I A L _
  unfold f_X6_reads at h
  refine e_aload_n (pc' := 1) (i := 0) rfl rfl dX6_reads_0 rfl ?_
  refine e_getR (a := 0) (b := 6) (k0 := 1) (pc' := 4) dX6_reads_1 rfl rfl (Nat.le_of_ble_eq_true rfl) (Nat.le_of_ble_eq_true rfl) rfl mw_336 rfl ?_
  refine e_aload_n (pc' := 5) (i := 0) rfl rfl dX6_reads_4 rfl ?_
  refine e_getR (a := 0) (b := 1) (k0 := 0) (pc' := 8) dX6_reads_5 rfl rfl (Nat.le_of_ble_eq_true rfl) (Nat.le_of_ble_eq_true rfl) rfl mw_335 rfl ?_
  obtain ⟨I2, A3, L4, hF1, h⟩ := g_b1_e h
  refine e_callVN_v (pc' := 11) dX6_reads_8 rfl mw_720 mv_X2_copyFrom rfl (Nat.le_of_ble_eq_true rfl) (Nat.le_of_ble_eq_true rfl) rfl (Nat.le_of_ble_eq_true rfl) (Nat.le_of_ble_eq_true rfl) rfl (c_X2_copyFrom_6_1 hF1) rfl ?_
  refine e_aload_n (pc' := 12) (i := 0) rfl rfl dX6_reads_11 rfl ?_
  refine e_getR (a := 0) (b := 57) (k0 := 6) (pc' := 15) dX6_reads_12 rfl rfl (Nat.le_of_ble_eq_true rfl) (Nat.le_of_ble_eq_true rfl) rfl mw_341 rfl ?_
  refine e_aload_n (pc' := 16) (i := 0) rfl rfl dX6_reads_15 rfl ?_
  refine e_getR (a := 0) (b := 6) (k0 := 1) (pc' := 19) dX6_reads_16 rfl rfl (Nat.le_of_ble_eq_true rfl) (Nat.le_of_ble_eq_true rfl) rfl mw_336 rfl ?_
  refine e_aload_n (pc' := 20) (i := 0) rfl rfl dX6_reads_19 rfl ?_
  refine e_getR (a := 0) (b := 54) (k0 := 5) (pc' := 23) dX6_reads_20 rfl rfl (Nat.le_of_ble_eq_true rfl) (Nat.le_of_ble_eq_true rfl) rfl mw_340 rfl ?_
  obtain ⟨v9, I6, A7, L8, hF5, h⟩ := g_b2_e h
  refine e_callVN_i (pc' := 26) dX6_reads_23 rfl mw_721 mv_X3_readAll rfl (Nat.le_of_ble_eq_true rfl) (Nat.le_of_ble_eq_true rfl) rfl (Nat.le_of_ble_eq_true rfl) (Nat.le_of_ble_eq_true rfl) rfl (c_X3_readAll_6_54 hF5) rfl ?_
  refine e_if_ne (tgt := 40) (pc' := 29) dX6_reads_26 (by decide) rfl h (fun h => ?_) (fun h => ?_)
  · refine e_aload_n (pc' := 41) (i := 0) rfl rfl dX6_reads_40 rfl ?_
    refine e_getR (a := 0) (b := 6) (k0 := 1) (pc' := 44) dX6_reads_41 rfl rfl (Nat.le_of_ble_eq_true rfl) (Nat.le_of_ble_eq_true rfl) rfl mw_336 rfl ?_
    refine e_getIN (a := 6) (n := 100) (k0 := 4) (pc' := 47) dX6_reads_44 rfl rfl (Nat.le_of_ble_eq_true rfl) (Nat.le_of_ble_eq_true rfl) rfl mw_144 rfl ?_
    refine e_aload_n (pc' := 48) (i := 0) rfl rfl dX6_reads_47 rfl ?_
    refine e_getR (a := 0) (b := 1) (k0 := 0) (pc' := 51) dX6_reads_48 rfl rfl (Nat.le_of_ble_eq_true rfl) (Nat.le_of_ble_eq_true rfl) rfl mw_335 rfl ?_
    refine e_getIN (a := 1) (n := 20) (k0 := 4) (pc' := 54) dX6_reads_51 rfl rfl (Nat.le_of_ble_eq_true rfl) (Nat.le_of_ble_eq_true rfl) rfl mw_144 rfl ?_
    refine e_isub (pc' := 55) dX6_reads_54 rfl ?_
    refine e_lt h (fun v10 h => ?_)
    refine e_istore_n (pc' := 56) (i := 1) (lc' := [some (.ref 0), some (.int v10)]) rfl dX6_reads_55 rfl (Nat.le_of_ble_eq_true rfl) rfl rfl ?_
    refine e_aload_n (pc' := 57) (i := 0) rfl rfl dX6_reads_56 rfl ?_
    obtain ⟨I12, A13, L14, hF11, h⟩ := g_b1_e h
    refine e_callV_v (pc' := 60) dX6_reads_57 rfl mw_405 mv_X6_leaveState rfl (Nat.le_of_ble_eq_true rfl) (Nat.le_of_ble_eq_true rfl) rfl (Nat.le_of_ble_eq_true rfl) (Nat.le_of_ble_eq_true rfl) rfl (c_X6_leaveState hF11) rfl ?_
    refine e_aload_n (pc' := 61) (i := 0) rfl rfl dX6_reads_60 rfl ?_
    refine e_getR (a := 0) (b := 1) (k0 := 0) (pc' := 64) dX6_reads_61 rfl rfl (Nat.le_of_ble_eq_true rfl) (Nat.le_of_ble_eq_true rfl) rfl mw_335 rfl ?_
    refine e_aload_n (pc' := 65) (i := 0) rfl rfl dX6_reads_64 rfl ?_
    refine e_getR (a := 0) (b := 6) (k0 := 1) (pc' := 68) dX6_reads_65 rfl rfl (Nat.le_of_ble_eq_true rfl) (Nat.le_of_ble_eq_true rfl) rfl mw_336 rfl ?_
    obtain ⟨I16, A17, L18, hF15, h⟩ := g_b1_e h
    refine e_callVN_v (pc' := 71) dX6_reads_68 rfl mw_720 mv_X2_copyFrom rfl (Nat.le_of_ble_eq_true rfl) (Nat.le_of_ble_eq_true rfl) rfl (Nat.le_of_ble_eq_true rfl) (Nat.le_of_ble_eq_true rfl) rfl (c_X2_copyFrom_1_6 hF15) rfl ?_
    refine e_iload_n (pc' := 72) (i := 1) rfl rfl dX6_reads_71 rfl ?_
    obtain ⟨rfl, rfl, rfl, rfl⟩ := g_re4 h
    exact e_iret dX6_reads_72
  · refine e_bipush (v := (-10)) (pc' := 31) (by decide) dX6_reads_29 rfl ?_
    refine e_aload_n (pc' := 32) (i := 0) rfl rfl dX6_reads_31 rfl ?_
    refine e_getR (a := 0) (b := 57) (k0 := 6) (pc' := 35) dX6_reads_32 rfl rfl (Nat.le_of_ble_eq_true rfl) (Nat.le_of_ble_eq_true rfl) rfl mw_341 rfl ?_
    refine e_getIN (a := 57) (n := 914) (k0 := 2) (pc' := 38) dX6_reads_35 rfl rfl (Nat.le_of_ble_eq_true rfl) (Nat.le_of_ble_eq_true rfl) rfl mw_301 rfl ?_
    refine e_isub (pc' := 39) dX6_reads_38 rfl ?_
    obtain ⟨rfl, rfl, rfl, rfl⟩ := g_re4 h
    exact e_iret dX6_reads_39
set_option maxHeartbeats 4000000 in
set_option maxRecDepth 100000 in
theorem c_X2_copyFrom_1_13  {I : Nat → Int32} {A : Nat → Nat → Int32} {L : Nat → Int64} {I' : Nat → Int32} {A' : Nat → Nat → Int32} {L' : Nat → Int64} (h : f_X2_copyFrom 1 13  I A L = some (I', A', L')) : GM 70 yX2_copyFrom cX2_copyFrom 2 none 1 [.ref 1, .ref 13] I A L (none, (I', A', L')) := by
  refine gm_of (n := 0) (lc := [some (.ref 1), some (.ref 13)]) (by decide +kernel) rfl (fun _ => Nat.le_of_ble_eq_true rfl) ?_
  change Ev 70 RX2 cX2_copyFrom 2 none 1 0 [some (.ref 1), some (.ref 13)] [] I A L _
  unfold f_X2_copyFrom at h
  refine e_aload_n (pc' := 1) (i := 1) rfl rfl dX2_copyFrom_0 rfl ?_
  refine e_ifnonnull (tgt := 5) dX2_copyFrom_1 (by decide) ?_
  refine e_aload_n (pc' := 6) (i := 0) rfl rfl dX2_copyFrom_5 rfl ?_
  refine e_aload_n (pc' := 7) (i := 1) rfl rfl dX2_copyFrom_6 rfl ?_
  refine e_getI (a := 13) (n := 212) (k0 := 4) (pc' := 10) dX2_copyFrom_7 rfl rfl (Nat.le_of_ble_eq_true rfl) (Nat.le_of_ble_eq_true rfl) rfl mw_142 rfl ?_
  refine e_putI (a := 1) (n := 20) (k0 := 4) (pc' := 13) dX2_copyFrom_10 rfl rfl (Nat.le_of_ble_eq_true rfl) (Nat.le_of_ble_eq_true rfl) rfl mw_142 rfl rfl g_pI rfl rfl ?_
  refine e_ltI h (fun I1 h => ?_)
  refine e_aload_n (pc' := 14) (i := 1) rfl rfl dX2_copyFrom_13 rfl ?_
  refine e_getR (a := 13) (b := 14) (k0 := 0) (pc' := 17) dX2_copyFrom_14 rfl rfl (Nat.le_of_ble_eq_true rfl) (Nat.le_of_ble_eq_true rfl) rfl mw_126 rfl ?_
  refine e_iconst (v := 0) (pc' := 18) (by decide) dX2_copyFrom_17 rfl ?_
  refine e_aload_n (pc' := 19) (i := 0) rfl rfl dX2_copyFrom_18 rfl ?_
  refine e_getR (a := 1) (b := 2) (k0 := 0) (pc' := 22) dX2_copyFrom_19 rfl rfl (Nat.le_of_ble_eq_true rfl) (Nat.le_of_ble_eq_true rfl) rfl mw_126 rfl ?_
  refine e_iconst (v := 0) (pc' := 23) (by decide) dX2_copyFrom_22 rfl ?_
  refine e_aload_n (pc' := 24) (i := 0) rfl rfl dX2_copyFrom_23 rfl ?_
  refine e_getI (a := 1) (n := 20) (k0 := 4) (pc' := 27) dX2_copyFrom_24 rfl rfl (Nat.le_of_ble_eq_true rfl) (Nat.le_of_ble_eq_true rfl) rfl mw_142 rfl ?_
  refine e_copy (pc' := 30) (n0 := 32) (n1 := 32) dX2_copyFrom_27 rfl mw_417 mw_419 mw_418 mw_108 (Nat.le_of_ble_eq_true rfl) (Nat.le_of_ble_eq_true rfl) rfl (Nat.le_of_ble_eq_true rfl) rfl (Nat.le_of_ble_eq_true rfl) h (fun h => ?_)
  refine e_ltA h (fun A2 h => ?_)
  refine e_aload_n (pc' := 31) (i := 1) rfl rfl dX2_copyFrom_30 rfl ?_
  refine e_getR (a := 13) (b := 15) (k0 := 1) (pc' := 34) dX2_copyFrom_31 rfl rfl (Nat.le_of_ble_eq_true rfl) (Nat.le_of_ble_eq_true rfl) rfl mw_130 rfl ?_
  refine e_iconst (v := 0) (pc' := 35) (by decide) dX2_copyFrom_34 rfl ?_
  refine e_aload_n (pc' := 36) (i := 0) rfl rfl dX2_copyFrom_35 rfl ?_
  refine e_getR (a := 1) (b := 3) (k0 := 1) (pc' := 39) dX2_copyFrom_36 rfl rfl (Nat.le_of_ble_eq_true rfl) (Nat.le_of_ble_eq_true rfl) rfl mw_130 rfl ?_
  refine e_iconst (v := 0) (pc' := 40) (by decide) dX2_copyFrom_39 rfl ?_
  refine e_aload_n (pc' := 41) (i := 0) rfl rfl dX2_copyFrom_40 rfl ?_
  refine e_getI (a := 1) (n := 20) (k0 := 4) (pc' := 44) dX2_copyFrom_41 rfl rfl (Nat.le_of_ble_eq_true rfl) (Nat.le_of_ble_eq_true rfl) rfl mw_142 rfl ?_
  refine e_copy (pc' := 47) (n0 := 32) (n1 := 32) dX2_copyFrom_44 rfl mw_417 mw_419 mw_418 mw_108 (Nat.le_of_ble_eq_true rfl) (Nat.le_of_ble_eq_true rfl) rfl (Nat.le_of_ble_eq_true rfl) rfl (Nat.le_of_ble_eq_true rfl) h (fun h => ?_)
  refine e_ltA h (fun A3 h => ?_)
  refine e_aload_n (pc' := 48) (i := 1) rfl rfl dX2_copyFrom_47 rfl ?_
  refine e_getR (a := 13) (b := 16) (k0 := 2) (pc' := 51) dX2_copyFrom_48 rfl rfl (Nat.le_of_ble_eq_true rfl) (Nat.le_of_ble_eq_true rfl) rfl mw_134 rfl ?_
  refine e_iconst (v := 0) (pc' := 52) (by decide) dX2_copyFrom_51 rfl ?_
  refine e_aload_n (pc' := 53) (i := 0) rfl rfl dX2_copyFrom_52 rfl ?_
  refine e_getR (a := 1) (b := 4) (k0 := 2) (pc' := 56) dX2_copyFrom_53 rfl rfl (Nat.le_of_ble_eq_true rfl) (Nat.le_of_ble_eq_true rfl) rfl mw_134 rfl ?_
  refine e_iconst (v := 0) (pc' := 57) (by decide) dX2_copyFrom_56 rfl ?_
  refine e_aload_n (pc' := 58) (i := 0) rfl rfl dX2_copyFrom_57 rfl ?_
  refine e_getI (a := 1) (n := 20) (k0 := 4) (pc' := 61) dX2_copyFrom_58 rfl rfl (Nat.le_of_ble_eq_true rfl) (Nat.le_of_ble_eq_true rfl) rfl mw_142 rfl ?_
  refine e_copy (pc' := 64) (n0 := 32) (n1 := 32) dX2_copyFrom_61 rfl mw_417 mw_419 mw_418 mw_108 (Nat.le_of_ble_eq_true rfl) (Nat.le_of_ble_eq_true rfl) rfl (Nat.le_of_ble_eq_true rfl) rfl (Nat.le_of_ble_eq_true rfl) h (fun h => ?_)
  refine e_ltA h (fun A4 h => ?_)
  refine e_aload_n (pc' := 65) (i := 1) rfl rfl dX2_copyFrom_64 rfl ?_
  refine e_getR (a := 13) (b := 17) (k0 := 3) (pc' := 68) dX2_copyFrom_65 rfl rfl (Nat.le_of_ble_eq_true rfl) (Nat.le_of_ble_eq_true rfl) rfl mw_138 rfl ?_
  refine e_iconst (v := 0) (pc' := 69) (by decide) dX2_copyFrom_68 rfl ?_
  refine e_aload_n (pc' := 70) (i := 0) rfl rfl dX2_copyFrom_69 rfl ?_
  refine e_getR (a := 1) (b := 5) (k0 := 3) (pc' := 73) dX2_copyFrom_70 rfl rfl (Nat.le_of_ble_eq_true rfl) (Nat.le_of_ble_eq_true rfl) rfl mw_138 rfl ?_
  refine e_iconst (v := 0) (pc' := 74) (by decide) dX2_copyFrom_73 rfl ?_
  refine e_aload_n (pc' := 75) (i := 0) rfl rfl dX2_copyFrom_74 rfl ?_
  refine e_getI (a := 1) (n := 20) (k0 := 4) (pc' := 78) dX2_copyFrom_75 rfl rfl (Nat.le_of_ble_eq_true rfl) (Nat.le_of_ble_eq_true rfl) rfl mw_142 rfl ?_
  refine e_copy (pc' := 81) (n0 := 32) (n1 := 32) dX2_copyFrom_78 rfl mw_417 mw_419 mw_418 mw_108 (Nat.le_of_ble_eq_true rfl) (Nat.le_of_ble_eq_true rfl) rfl (Nat.le_of_ble_eq_true rfl) rfl (Nat.le_of_ble_eq_true rfl) h (fun h => ?_)
  refine e_ltA h (fun A5 h => ?_)
  obtain ⟨rfl, rfl, rfl⟩ := g_re3 h
  exact e_vret dX2_copyFrom_81
set_option maxHeartbeats 4000000 in
set_option maxRecDepth 100000 in
theorem c_X2_copyFrom_1_18  {I : Nat → Int32} {A : Nat → Nat → Int32} {L : Nat → Int64} {I' : Nat → Int32} {A' : Nat → Nat → Int32} {L' : Nat → Int64} (h : f_X2_copyFrom 1 18  I A L = some (I', A', L')) : GM 70 yX2_copyFrom cX2_copyFrom 2 none 1 [.ref 1, .ref 18] I A L (none, (I', A', L')) := by
  refine gm_of (n := 0) (lc := [some (.ref 1), some (.ref 18)]) (by decide +kernel) rfl (fun _ => Nat.le_of_ble_eq_true rfl) ?_
  change Ev 70 RX2 cX2_copyFrom 2 none 1 0 [some (.ref 1), some (.ref 18)] [] I A L _
  unfold f_X2_copyFrom at h
  refine e_aload_n (pc' := 1) (i := 1) rfl rfl dX2_copyFrom_0 rfl ?_
  refine e_ifnonnull (tgt := 5) dX2_copyFrom_1 (by decide) ?_
  refine e_aload_n (pc' := 6) (i := 0) rfl rfl dX2_copyFrom_5 rfl ?_
  refine e_aload_n (pc' := 7) (i := 1) rfl rfl dX2_copyFrom_6 rfl ?_
  refine e_getI (a := 18) (n := 292) (k0 := 4) (pc' := 10) dX2_copyFrom_7 rfl rfl (Nat.le_of_ble_eq_true rfl) (Nat.le_of_ble_eq_true rfl) rfl mw_142 rfl ?_
  refine e_putI (a := 1) (n := 20) (k0 := 4) (pc' := 13) dX2_copyFrom_10 rfl rfl (Nat.le_of_ble_eq_true rfl) (Nat.le_of_ble_eq_true rfl) rfl mw_142 rfl rfl g_pI rfl rfl ?_
  refine e_ltI h (fun I1 h => ?_)
  refine e_aload_n (pc' := 14) (i := 1) rfl rfl dX2_copyFrom_13 rfl ?_
  refine e_getR (a := 18) (b := 19) (k0 := 0) (pc' := 17) dX2_copyFrom_14 rfl rfl (Nat.le_of_ble_eq_true rfl) (Nat.le_of_ble_eq_true rfl) rfl mw_126 rfl ?_
  refine e_iconst (v := 0) (pc' := 18) (by decide) dX2_copyFrom_17 rfl ?_
  refine e_aload_n (pc' := 19) (i := 0) rfl rfl dX2_copyFrom_18 rfl ?_
  refine e_getR (a := 1) (b := 2) (k0 := 0) (pc' := 22) dX2_copyFrom_19 rfl rfl (Nat.le_of_ble_eq_true rfl) (Nat.le_of_ble_eq_true rfl) rfl mw_126 rfl ?_
  refine e_iconst (v := 0) (pc' := 23) (by decide) dX2_copyFrom_22 rfl ?_
  refine e_aload_n (pc' := 24) (i := 0) rfl rfl dX2_copyFrom_23 rfl ?_
  refine e_getI (a := 1) (n := 20) (k0 := 4) (pc' := 27) dX2_copyFrom_24 rfl rfl (Nat.le_of_ble_eq_true rfl) (Nat.le_of_ble_eq_true rfl) rfl mw_142 rfl ?_
  refine e_copy (pc' := 30) (n0 := 32) (n1 := 32) dX2_copyFrom_27 rfl mw_417 mw_419 mw_418 mw_108 (Nat.le_of_ble_eq_true rfl) (Nat.le_of_ble_eq_true rfl) rfl (Nat.le_of_ble_eq_true rfl) rfl (Nat.le_of_ble_eq_true rfl) h (fun h => ?_)
  refine e_ltA h (fun A2 h => ?_)
  refine e_aload_n (pc' := 31) (i := 1) rfl rfl dX2_copyFrom_30 rfl ?_
  refine e_getR (a := 18) (b := 20) (k0 := 1) (pc' := 34) dX2_copyFrom_31 rfl rfl (Nat.le_of_ble_eq_true rfl) (Nat.le_of_ble_eq_true rfl) rfl mw_130 rfl ?_
  refine e_iconst (v := 0) (pc' := 35) (by decide) dX2_copyFrom_34 rfl ?_
  refine e_aload_n (pc' := 36) (i := 0) rfl rfl dX2_copyFrom_35 rfl ?_
  refine e_getR (a := 1) (b := 3) (k0 := 1) (pc' := 39) dX2_copyFrom_36 rfl rfl (Nat.le_of_ble_eq_true rfl) (Nat.le_of_ble_eq_true rfl) rfl mw_130 rfl ?_
  refine e_iconst (v := 0) (pc' := 40) (by decide) dX2_copyFrom_39 rfl ?_
  refine e_aload_n (pc' := 41) (i := 0) rfl rfl dX2_copyFrom_40 rfl ?_
  refine e_getI (a := 1) (n := 20) (k0 := 4) (pc' := 44) dX2_copyFrom_41 rfl rfl (Nat.le_of_ble_eq_true rfl) (Nat.le_of_ble_eq_true rfl) rfl mw_142 rfl ?_
  refine e_copy (pc' := 47) (n0 := 32) (n1 := 32) dX2_copyFrom_44 rfl mw_417 mw_419 mw_418 mw_108 (Nat.le_of_ble_eq_true rfl) (Nat.le_of_ble_eq_true rfl) rfl (Nat.le_of_ble_eq_true rfl) rfl (Nat.le_of_ble_eq_true rfl) h (fun h => ?_)
  refine e_ltA h (fun A3 h => ?_)
  refine e_aload_n (pc' := 48) (i := 1) rfl rfl dX2_copyFrom_47 rfl ?_
  refine e_getR (a := 18) (b := 21) (k0 := 2) (pc' := 51) dX2_copyFrom_48 rfl rfl (Nat.le_of_ble_eq_true rfl) (Nat.le_of_ble_eq_true rfl) rfl mw_134 rfl ?_
  refine e_iconst (v := 0) (pc' := 52) (by decide) dX2_copyFrom_51 rfl ?_
  refine e_aload_n (pc' := 53) (i := 0) rfl rfl dX2_copyFrom_52 rfl ?_
  refine e_getR (a := 1) (b := 4) (k0 := 2) (pc' := 56) dX2_copyFrom_53 rfl rfl (Nat.le_of_ble_eq_true rfl) (Nat.le_of_ble_eq_true rfl) rfl mw_134 rfl ?_
  refine e_iconst (v := 0) (pc' := 57) (by decide) dX2_copyFrom_56 rfl ?_
  refine e_aload_n (pc' := 58) (i := 0) rfl rfl dX2_copyFrom_57 rfl ?_
  refine e_getI (a := 1) (n := 20) (k0 := 4) (pc' := 61) dX2_copyFrom_58 rfl rfl (Nat.le_of_ble_eq_true rfl) (Nat.le_of_ble_eq_true rfl) rfl mw_142 rfl ?_
  refine e_copy (pc' := 64) (n0 := 32) (n1 := 32) dX2_copyFrom_61 rfl mw_417 mw_419 mw_418 mw_108 (Nat.le_of_ble_eq_true rfl) (Nat.le_of_ble_eq_true rfl) rfl (Nat.le_of_ble_eq_true rfl) rfl (Nat.le_of_ble_eq_true rfl) h (fun h => ?_)
  refine e_ltA h (fun A4 h => ?_)
  refine e_aload_n (pc' := 65) (i := 1) rfl rfl dX2_copyFrom_64 rfl ?_
  refine e_getR (a := 18) (b := 22) (k0 := 3) (pc' := 68) dX2_copyFrom_65 rfl rfl (Nat.le_of_ble_eq_true rfl) (Nat.le_of_ble_eq_true rfl) rfl mw_138 rfl ?_
  refine e_iconst (v := 0) (pc' := 69) (by decide) dX2_copyFrom_68 rfl ?_
  refine e_aload_n (pc' := 70) (i := 0) rfl rfl dX2_copyFrom_69 rfl ?_
  refine e_getR (a := 1) (b := 5) (k0 := 3) (pc' := 73) dX2_copyFrom_70 rfl rfl (Nat.le_of_ble_eq_true rfl) (Nat.le_of_ble_eq_true rfl) rfl mw_138 rfl ?_
  refine e_iconst (v := 0) (pc' := 74) (by decide) dX2_copyFrom_73 rfl ?_
  refine e_aload_n (pc' := 75) (i := 0) rfl rfl dX2_copyFrom_74 rfl ?_
  refine e_getI (a := 1) (n := 20) (k0 := 4) (pc' := 78) dX2_copyFrom_75 rfl rfl (Nat.le_of_ble_eq_true rfl) (Nat.le_of_ble_eq_true rfl) rfl mw_142 rfl ?_
  refine e_copy (pc' := 81) (n0 := 32) (n1 := 32) dX2_copyFrom_78 rfl mw_417 mw_419 mw_418 mw_108 (Nat.le_of_ble_eq_true rfl) (Nat.le_of_ble_eq_true rfl) rfl (Nat.le_of_ble_eq_true rfl) rfl (Nat.le_of_ble_eq_true rfl) h (fun h => ?_)
  refine e_ltA h (fun A5 h => ?_)
  obtain ⟨rfl, rfl, rfl⟩ := g_re3 h
  exact e_vret dX2_copyFrom_81
set_option maxHeartbeats 4000000 in
set_option maxRecDepth 100000 in
theorem c_X2_copyFrom_1_23  {I : Nat → Int32} {A : Nat → Nat → Int32} {L : Nat → Int64} {I' : Nat → Int32} {A' : Nat → Nat → Int32} {L' : Nat → Int64} (h : f_X2_copyFrom 1 23  I A L = some (I', A', L')) : GM 70 yX2_copyFrom cX2_copyFrom 2 none 1 [.ref 1, .ref 23] I A L (none, (I', A', L')) := by
  refine gm_of (n := 0) (lc := [some (.ref 1), some (.ref 23)]) (by decide +kernel) rfl (fun _ => Nat.le_of_ble_eq_true rfl) ?_
  change Ev 70 RX2 cX2_copyFrom 2 none 1 0 [some (.ref 1), some (.ref 23)] [] I A L _
  unfold f_X2_copyFrom at h
  refine e_aload_n (pc' := 1) (i := 1) rfl rfl dX2_copyFrom_0 rfl ?_
  refine e_ifnonnull (tgt := 5) dX2_copyFrom_1 (by decide) ?_
  refine e_aload_n (pc' := 6) (i := 0) rfl rfl dX2_copyFrom_5 rfl ?_
  refine e_aload_n (pc' := 7) (i := 1) rfl rfl dX2_copyFrom_6 rfl ?_
  refine e_getI (a := 23) (n := 372) (k0 := 4) (pc' := 10) dX2_copyFrom_7 rfl rfl (Nat.le_of_ble_eq_true rfl) (Nat.le_of_ble_eq_true rfl) rfl mw_142 rfl ?_
  refine e_putI (a := 1) (n := 20) (k0 := 4) (pc' := 13) dX2_copyFrom_10 rfl rfl (Nat.le_of_ble_eq_true rfl) (Nat.le_of_ble_eq_true rfl) rfl mw_142 rfl rfl g_pI rfl rfl ?_
  refine e_ltI h (fun I1 h => ?_)
  refine e_aload_n (pc' := 14) (i := 1) rfl rfl dX2_copyFrom_13 rfl ?_
  refine e_getR (a := 23) (b := 24) (k0 := 0) (pc' := 17) dX2_copyFrom_14 rfl rfl (Nat.le_of_ble_eq_true rfl) (Nat.le_of_ble_eq_true rfl) rfl mw_126 rfl ?_
  refine e_iconst (v := 0) (pc' := 18) (by decide) dX2_copyFrom_17 rfl ?_
  refine e_aload_n (pc' := 19) (i := 0) rfl rfl dX2_copyFrom_18 rfl ?_
  refine e_getR (a := 1) (b := 2) (k0 := 0) (pc' := 22) dX2_copyFrom_19 rfl rfl (Nat.le_of_ble_eq_true rfl) (Nat.le_of_ble_eq_true rfl) rfl mw_126 rfl ?_
  refine e_iconst (v := 0) (pc' := 23) (by decide) dX2_copyFrom_22 rfl ?_
  refine e_aload_n (pc' := 24) (i := 0) rfl rfl dX2_copyFrom_23 rfl ?_
  refine e_getI (a := 1) (n := 20) (k0 := 4) (pc' := 27) dX2_copyFrom_24 rfl rfl (Nat.le_of_ble_eq_true rfl) (Nat.le_of_ble_eq_true rfl) rfl mw_142 rfl ?_
  refine e_copy (pc' := 30) (n0 := 32) (n1 := 32) dX2_copyFrom_27 rfl mw_417 mw_419 mw_418 mw_108 (Nat.le_of_ble_eq_true rfl) (Nat.le_of_ble_eq_true rfl) rfl (Nat.le_of_ble_eq_true rfl) rfl (Nat.le_of_ble_eq_true rfl) h (fun h => ?_)
  refine e_ltA h (fun A2 h => ?_)
  refine e_aload_n (pc' := 31) (i := 1) rfl rfl dX2_copyFrom_30 rfl ?_
  refine e_getR (a := 23) (b := 25) (k0 := 1) (pc' := 34) dX2_copyFrom_31 rfl rfl (Nat.le_of_ble_eq_true rfl) (Nat.le_of_ble_eq_true rfl) rfl mw_130 rfl ?_
  refine e_iconst (v := 0) (pc' := 35) (by decide) dX2_copyFrom_34 rfl ?_
  refine e_aload_n (pc' := 36) (i := 0) rfl rfl dX2_copyFrom_35 rfl ?_
  refine e_getR (a := 1) (b := 3) (k0 := 1) (pc' := 39) dX2_copyFrom_36 rfl rfl (Nat.le_of_ble_eq_true rfl) (Nat.le_of_ble_eq_true rfl) rfl mw_130 rfl ?_
  refine e_iconst (v := 0) (pc' := 40) (by decide) dX2_copyFrom_39 rfl ?_
  refine e_aload_n (pc' := 41) (i := 0) rfl rfl dX2_copyFrom_40 rfl ?_
  refine e_getI (a := 1) (n := 20) (k0 := 4) (pc' := 44) dX2_copyFrom_41 rfl rfl (Nat.le_of_ble_eq_true rfl) (Nat.le_of_ble_eq_true rfl) rfl mw_142 rfl ?_
  refine e_copy (pc' := 47) (n0 := 32) (n1 := 32) dX2_copyFrom_44 rfl mw_417 mw_419 mw_418 mw_108 (Nat.le_of_ble_eq_true rfl) (Nat.le_of_ble_eq_true rfl) rfl (Nat.le_of_ble_eq_true rfl) rfl (Nat.le_of_ble_eq_true rfl) h (fun h => ?_)
  refine e_ltA h (fun A3 h => ?_)
  refine e_aload_n (pc' := 48) (i := 1) rfl rfl dX2_copyFrom_47 rfl ?_
  refine e_getR (a := 23) (b := 26) (k0 := 2) (pc' := 51) dX2_copyFrom_48 rfl rfl (Nat.le_of_ble_eq_true rfl) (Nat.le_of_ble_eq_true rfl) rfl mw_134 rfl ?_
  refine e_iconst (v := 0) (pc' := 52) (by decide) dX2_copyFrom_51 rfl ?_
  refine e_aload_n (pc' := 53) (i := 0) rfl rfl dX2_copyFrom_52 rfl ?_
  refine e_getR (a := 1) (b := 4) (k0 := 2) (pc' := 56) dX2_copyFrom_53 rfl rfl (Nat.le_of_ble_eq_true rfl) (Nat.le_of_ble_eq_true rfl) rfl mw_134 rfl ?_
  refine e_iconst (v := 0) (pc' := 57) (by decide) dX2_copyFrom_56 rfl ?_
  refine e_aload_n (pc' := 58) (i := 0) rfl rfl dX2_copyFrom_57 rfl ?_
  refine e_getI (a := 1) (n := 20) (k0 := 4) (pc' := 61) dX2_copyFrom_58 rfl rfl (Nat.le_of_ble_eq_true rfl) (Nat.le_of_ble_eq_true rfl) rfl mw_142 rfl ?_
  refine e_copy (pc' := 64) (n0 := 32) (n1 := 32) dX2_copyFrom_61 rfl mw_417 mw_419 mw_418 mw_108 (Nat.le_of_ble_eq_true rfl) (Nat.le_of_ble_eq_true rfl) rfl (Nat.le_of_ble_eq_true rfl) rfl (Nat.le_of_ble_eq_true rfl) h (fun h => ?_)
  refine e_ltA h (fun A4 h => ?_)
  refine e_aload_n (pc' := 65) (i := 1) rfl rfl dX2_copyFrom_64 rfl ?_
  refine e_getR (a := 23) (b := 27) (k0 := 3) (pc' := 68) dX2_copyFrom_65 rfl rfl (Nat.le_of_ble_eq_true rfl) (Nat.le_of_ble_eq_true rfl) rfl mw_138 rfl ?_
  refine e_iconst (v := 0) (pc' := 69) (by decide) dX2_copyFrom_68 rfl ?_
  refine e_aload_n (pc' := 70) (i := 0) rfl rfl dX2_copyFrom_69 rfl ?_
  refine e_getR (a := 1) (b := 5) (k0 := 3) (pc' := 73) dX2_copyFrom_70 rfl rfl (Nat.le_of_ble_eq_true rfl) (Nat.le_of_ble_eq_true rfl) rfl mw_138 rfl ?_
  refine e_iconst (v := 0) (pc' := 74) (by decide) dX2_copyFrom_73 rfl ?_
  refine e_aload_n (pc' := 75) (i := 0) rfl rfl dX2_copyFrom_74 rfl ?_
  refine e_getI (a := 1) (n := 20) (k0 := 4) (pc' := 78) dX2_copyFrom_75 rfl rfl (Nat.le_of_ble_eq_true rfl) (Nat.le_of_ble_eq_true rfl) rfl mw_142 rfl ?_
  refine e_copy (pc' := 81) (n0 := 32) (n1 := 32) dX2_copyFrom_78 rfl mw_417 mw_419 mw_418 mw_108 (Nat.le_of_ble_eq_true rfl) (Nat.le_of_ble_eq_true rfl) rfl (Nat.le_of_ble_eq_true rfl) rfl (Nat.le_of_ble_eq_true rfl) h (fun h => ?_)
  refine e_ltA h (fun A5 h => ?_)
  obtain ⟨rfl, rfl, rfl⟩ := g_re3 h
  exact e_vret dX2_copyFrom_81
set_option maxHeartbeats 4000000 in
set_option maxRecDepth 100000 in
theorem c_X2_copyFrom_1_28  {I : Nat → Int32} {A : Nat → Nat → Int32} {L : Nat → Int64} {I' : Nat → Int32} {A' : Nat → Nat → Int32} {L' : Nat → Int64} (h : f_X2_copyFrom 1 28  I A L = some (I', A', L')) : GM 70 yX2_copyFrom cX2_copyFrom 2 none 1 [.ref 1, .ref 28] I A L (none, (I', A', L')) := by
  refine gm_of (n := 0) (lc := [some (.ref 1), some (.ref 28)]) (by decide +kernel) rfl (fun _ => Nat.le_of_ble_eq_true rfl) ?_
  change Ev 70 RX2 cX2_copyFrom 2 none 1 0 [some (.ref 1), some (.ref 28)] [] I A L _
  unfold f_X2_copyFrom at h
  refine e_aload_n (pc' := 1) (i := 1) rfl rfl dX2_copyFrom_0 rfl ?_
  refine e_ifnonnull (tgt := 5) dX2_copyFrom_1 (by decide) ?_
  refine e_aload_n (pc' := 6) (i := 0) rfl rfl dX2_copyFrom_5 rfl ?_
  refine e_aload_n (pc' := 7) (i := 1) rfl rfl dX2_copyFrom_6 rfl ?_
  refine e_getI (a := 28) (n := 452) (k0 := 4) (pc' := 10) dX2_copyFrom_7 rfl rfl (Nat.le_of_ble_eq_true rfl) (Nat.le_of_ble_eq_true rfl) rfl mw_142 rfl ?_
  refine e_putI (a := 1) (n := 20) (k0 := 4) (pc' := 13) dX2_copyFrom_10 rfl rfl (Nat.le_of_ble_eq_true rfl) (Nat.le_of_ble_eq_true rfl) rfl mw_142 rfl rfl g_pI rfl rfl ?_
  refine e_ltI h (fun I1 h => ?_)
  refine e_aload_n (pc' := 14) (i := 1) rfl rfl dX2_copyFrom_13 rfl ?_
  refine e_getR (a := 28) (b := 29) (k0 := 0) (pc' := 17) dX2_copyFrom_14 rfl rfl (Nat.le_of_ble_eq_true rfl) (Nat.le_of_ble_eq_true rfl) rfl mw_126 rfl ?_
  refine e_iconst (v := 0) (pc' := 18) (by decide) dX2_copyFrom_17 rfl ?_
  refine e_aload_n (pc' := 19) (i := 0) rfl rfl dX2_copyFrom_18 rfl ?_
  refine e_getR (a := 1) (b := 2) (k0 := 0) (pc' := 22) dX2_copyFrom_19 rfl rfl (Nat.le_of_ble_eq_true rfl) (Nat.le_of_ble_eq_true rfl) rfl mw_126 rfl ?_
  refine e_iconst (v := 0) (pc' := 23) (by decide) dX2_copyFrom_22 rfl ?_
  refine e_aload_n (pc' := 24) (i := 0) rfl rfl dX2_copyFrom_23 rfl ?_
  refine e_getI (a := 1) (n := 20) (k0 := 4) (pc' := 27) dX2_copyFrom_24 rfl rfl (Nat.le_of_ble_eq_true rfl) (Nat.le_of_ble_eq_true rfl) rfl mw_142 rfl ?_
  refine e_copy (pc' := 30) (n0 := 32) (n1 := 32) dX2_copyFrom_27 rfl mw_417 mw_419 mw_418 mw_108 (Nat.le_of_ble_eq_true rfl) (Nat.le_of_ble_eq_true rfl) rfl (Nat.le_of_ble_eq_true rfl) rfl (Nat.le_of_ble_eq_true rfl) h (fun h => ?_)
  refine e_ltA h (fun A2 h => ?_)
  refine e_aload_n (pc' := 31) (i := 1) rfl rfl dX2_copyFrom_30 rfl ?_
  refine e_getR (a := 28) (b := 30) (k0 := 1) (pc' := 34) dX2_copyFrom_31 rfl rfl (Nat.le_of_ble_eq_true rfl) (Nat.le_of_ble_eq_true rfl) rfl mw_130 rfl ?_
  refine e_iconst (v := 0) (pc' := 35) (by decide) dX2_copyFrom_34 rfl ?_
  refine e_aload_n (pc' := 36) (i := 0) rfl rfl dX2_copyFrom_35 rfl ?_
  refine e_getR (a := 1) (b := 3) (k0 := 1) (pc' := 39) dX2_copyFrom_36 rfl rfl (Nat.le_of_ble_eq_true rfl) (Nat.le_of_ble_eq_true rfl) rfl mw_130 rfl ?_
  refine e_iconst (v := 0) (pc' := 40) (by decide) dX2_copyFrom_39 rfl ?_
  refine e_aload_n (pc' := 41) (i := 0) rfl rfl dX2_copyFrom_40 rfl ?_
  refine e_getI (a := 1) (n := 20) (k0 := 4) (pc' := 44) dX2_copyFrom_41 rfl rfl (Nat.le_of_ble_eq_true rfl) (Nat.le_of_ble_eq_true rfl) rfl mw_142 rfl ?_
  refine e_copy (pc' := 47) (n0 := 32) (n1 := 32) dX2_copyFrom_44 rfl mw_417 mw_419 mw_418 mw_108 (Nat.le_of_ble_eq_true rfl) (Nat.le_of_ble_eq_true rfl) rfl (Nat.le_of_ble_eq_true rfl) rfl (Nat.le_of_ble_eq_true rfl) h (fun h => ?_)
  refine e_ltA h (fun A3 h => ?_)
  refine e_aload_n (pc' := 48) (i := 1) rfl rfl dX2_copyFrom_47 rfl ?_
  refine e_getR (a := 28) (b := 31) (k0 := 2) (pc' := 51) dX2_copyFrom_48 rfl rfl (Nat.le_of_ble_eq_true rfl) (Nat.le_of_ble_eq_true rfl) rfl mw_134 rfl ?_
  refine e_iconst (v := 0) (pc' := 52) (by decide) dX2_copyFrom_51 rfl ?_
  refine e_aload_n (pc' := 53) (i := 0) rfl rfl dX2_copyFrom_52 rfl ?_
  refine e_getR (a := 1) (b := 4) (k0 := 2) (pc' := 56) dX2_copyFrom_53 rfl rfl (Nat.le_of_ble_eq_true rfl) (Nat.le_of_ble_eq_true rfl) rfl mw_134 rfl ?_
  refine e_iconst (v := 0) (pc' := 57) (by decide) dX2_copyFrom_56 rfl ?_
  refine e_aload_n (pc' := 58) (i := 0) rfl rfl dX2_copyFrom_57 rfl ?_
  refine e_getI (a := 1) (n := 20) (k0 := 4) (pc' := 61) dX2_copyFrom_58 rfl rfl (Nat.le_of_ble_eq_true rfl) (Nat.le_of_ble_eq_true rfl) rfl mw_142 rfl ?_
  refine e_copy (pc' := 64) (n0 := 32) (n1 := 32) dX2_copyFrom_61 rfl mw_417 mw_419 mw_418 mw_108 (Nat.le_of_ble_eq_true rfl) (Nat.le_of_ble_eq_true rfl) rfl (Nat.le_of_ble_eq_true rfl) rfl (Nat.le_of_ble_eq_true rfl) h (fun h => ?_)
  refine e_ltA h (fun A4 h => ?_)
  refine e_aload_n (pc' := 65) (i := 1) rfl rfl dX2_copyFrom_64 rfl ?_
  refine e_getR (a := 28) (b := 32) (k0 := 3) (pc' := 68) dX2_copyFrom_65 rfl rfl (Nat.le_of_ble_eq_true rfl) (Nat.le_of_ble_eq_true rfl) rfl mw_138 rfl ?_
  refine e_iconst (v := 0) (pc' := 69) (by decide) dX2_copyFrom_68 rfl ?_
  refine e_aload_n (pc' := 70) (i := 0) rfl rfl dX2_copyFrom_69 rfl ?_
  refine e_getR (a := 1) (b := 5) (k0 := 3) (pc' := 73) dX2_copyFrom_70 rfl rfl (Nat.le_of_ble_eq_true rfl) (Nat.le_of_ble_eq_true rfl) rfl mw_138 rfl ?_
  refine e_iconst (v := 0) (pc' := 74) (by decide) dX2_copyFrom_73 rfl ?_
  refine e_aload_n (pc' := 75) (i := 0) rfl rfl dX2_copyFrom_74 rfl ?_
  refine e_getI (a := 1) (n := 20) (k0 := 4) (pc' := 78) dX2_copyFrom_75 rfl rfl (Nat.le_of_ble_eq_true rfl) (Nat.le_of_ble_eq_true rfl) rfl mw_142 rfl ?_
  refine e_copy (pc' := 81) (n0 := 32) (n1 := 32) dX2_copyFrom_78 rfl mw_417 mw_419 mw_418 mw_108 (Nat.le_of_ble_eq_true rfl) (Nat.le_of_ble_eq_true rfl) rfl (Nat.le_of_ble_eq_true rfl) rfl (Nat.le_of_ble_eq_true rfl) h (fun h => ?_)
  refine e_ltA h (fun A5 h => ?_)
  obtain ⟨rfl, rfl, rfl⟩ := g_re3 h
  exact e_vret dX2_copyFrom_81
set_option maxHeartbeats 4000000 in
set_option maxRecDepth 100000 in
theorem c_X2_copyFrom_1_33  {I : Nat → Int32} {A : Nat → Nat → Int32} {L : Nat → Int64} {I' : Nat → Int32} {A' : Nat → Nat → Int32} {L' : Nat → Int64} (h : f_X2_copyFrom 1 33  I A L = some (I', A', L')) : GM 70 yX2_copyFrom cX2_copyFrom 2 none 1 [.ref 1, .ref 33] I A L (none, (I', A', L')) := by
  refine gm_of (n := 0) (lc := [some (.ref 1), some (.ref 33)]) (by decide +kernel) rfl (fun _ => Nat.le_of_ble_eq_true rfl) ?_
  change Ev 70 RX2 cX2_copyFrom 2 none 1 0 [some (.ref 1), some (.ref 33)] [] I A L _
  unfold f_X2_copyFrom at h
  refine e_aload_n (pc' := 1) (i := 1) rfl rfl dX2_copyFrom_0 rfl ?_
  refine e_ifnonnull (tgt := 5) dX2_copyFrom_1 (by decide) ?_
  refine e_aload_n (pc' := 6) (i := 0) rfl rfl dX2_copyFrom_5 rfl ?_
  refine e_aload_n (pc' := 7) (i := 1) rfl rfl dX2_copyFrom_6 rfl ?_
  refine e_getI (a := 33) (n := 532) (k0 := 4) (pc' := 10) dX2_copyFrom_7 rfl rfl (Nat.le_of_ble_eq_true rfl) (Nat.le_of_ble_eq_true rfl) rfl mw_142 rfl ?_
  refine e_putI (a := 1) (n := 20) (k0 := 4) (pc' := 13) dX2_copyFrom_10 rfl rfl (Nat.le_of_ble_eq_true rfl) (Nat.le_of_ble_eq_true rfl) rfl mw_142 rfl rfl g_pI rfl rfl ?_
  refine e_ltI h (fun I1 h => ?_)
  refine e_aload_n (pc' := 14) (i := 1) rfl rfl dX2_copyFrom_13 rfl ?_
  refine e_getR (a := 33) (b := 34) (k0 := 0) (pc' := 17) dX2_copyFrom_14 rfl rfl (Nat.le_of_ble_eq_true rfl) (Nat.le_of_ble_eq_true rfl) rfl mw_126 rfl ?_
  refine e_iconst (v := 0) (pc' := 18) (by decide) dX2_copyFrom_17 rfl ?_
  refine e_aload_n (pc' := 19) (i := 0) rfl rfl dX2_copyFrom_18 rfl ?_
  refine e_getR (a := 1) (b := 2) (k0 := 0) (pc' := 22) dX2_copyFrom_19 rfl rfl (Nat.le_of_ble_eq_true rfl) (Nat.le_of_ble_eq_true rfl) rfl mw_126 rfl ?_
  refine e_iconst (v := 0) (pc' := 23) (by decide) dX2_copyFrom_22 rfl ?_
  refine e_aload_n (pc' := 24) (i := 0) rfl rfl dX2_copyFrom_23 rfl ?_
  refine e_getI (a := 1) (n := 20) (k0 := 4) (pc' := 27) dX2_copyFrom_24 rfl rfl (Nat.le_of_ble_eq_true rfl) (Nat.le_of_ble_eq_true rfl) rfl mw_142 rfl ?_
  refine e_copy (pc' := 30) (n0 := 32) (n1 := 32) dX2_copyFrom_27 rfl mw_417 mw_419 mw_418 mw_108 (Nat.le_of_ble_eq_true rfl) (Nat.le_of_ble_eq_true rfl) rfl (Nat.le_of_ble_eq_true rfl) rfl (Nat.le_of_ble_eq_true rfl) h (fun h => ?_)
  refine e_ltA h (fun A2 h => ?_)
  refine e_aload_n (pc' := 31) (i := 1) rfl rfl dX2_copyFrom_30 rfl ?_
  refine e_getR (a := 33) (b := 35) (k0 := 1) (pc' := 34) dX2_copyFrom_31 rfl rfl (Nat.le_of_ble_eq_true rfl) (Nat.le_of_ble_eq_true rfl) rfl mw_130 rfl ?_
  refine e_iconst (v := 0) (pc' := 35) (by decide) dX2_copyFrom_34 rfl ?_
  refine e_aload_n (pc' := 36) (i := 0) rfl rfl dX2_copyFrom_35 rfl ?_
  refine e_getR (a := 1) (b := 3) (k0 := 1) (pc' := 39) dX2_copyFrom_36 rfl rfl (Nat.le_of_ble_eq_true rfl) (Nat.le_of_ble_eq_true rfl) rfl mw_130 rfl ?_
  refine e_iconst (v := 0) (pc' := 40) (by decide) dX2_copyFrom_39 rfl ?_
  refine e_aload_n (pc' := 41) (i := 0) rfl rfl dX2_copyFrom_40 rfl ?_
  refine e_getI (a := 1) (n := 20) (k0 := 4) (pc' := 44) dX2_copyFrom_41 rfl rfl (Nat.le_of_ble_eq_true rfl) (Nat.le_of_ble_eq_true rfl) rfl mw_142 rfl ?_
  refine e_copy (pc' := 47) (n0 := 32) (n1 := 32) dX2_copyFrom_44 rfl mw_417 mw_419 mw_418 mw_108 (Nat.le_of_ble_eq_true rfl) (Nat.le_of_ble_eq_true rfl) rfl (Nat.le_of_ble_eq_true rfl) rfl (Nat.le_of_ble_eq_true rfl) h (fun h => ?_)
  refine e_ltA h (fun A3 h => ?_)
  refine e_aload_n (pc' := 48) (i := 1) rfl rfl dX2_copyFrom_47 rfl ?_
  refine e_getR (a := 33) (b := 36) (k0 := 2) (pc' := 51) dX2_copyFrom_48 rfl rfl (Nat.le_of_ble_eq_true rfl) (Nat.le_of_ble_eq_true rfl) rfl mw_134 rfl ?_
  refine e_iconst (v := 0) (pc' := 52) (by decide) dX2_copyFrom_51 rfl ?_
  refine e_aload_n (pc' := 53) (i := 0) rfl rfl dX2_copyFrom_52 rfl ?_
  refine e_getR (a := 1) (b := 4) (k0 := 2) (pc' := 56) dX2_copyFrom_53 rfl rfl (Nat.le_of_ble_eq_true rfl) (Nat.le_of_ble_eq_true rfl) rfl mw_134 rfl ?_
  refine e_iconst (v := 0) (pc' := 57) (by decide) dX2_copyFrom_56 rfl ?_
  refine e_aload_n (pc' := 58) (i := 0) rfl rfl dX2_copyFrom_57 rfl ?_
  refine e_getI (a := 1) (n := 20) (k0 := 4) (pc' := 61) dX2_copyFrom_58 rfl rfl (Nat.le_of_ble_eq_true rfl) (Nat.le_of_ble_eq_true rfl) rfl mw_142 rfl ?_
  refine e_copy (pc' := 64) (n0 := 32) (n1 := 32) dX2_copyFrom_61 rfl mw_417 mw_419 mw_418 mw_108 (Nat.le_of_ble_eq_true rfl) (Nat.le_of_ble_eq_true rfl) rfl (Nat.le_of_ble_eq_true rfl) rfl (Nat.le_of_ble_eq_true rfl) h (fun h => ?_)
  refine e_ltA h (fun A4 h => ?_)
  refine e_aload_n (pc' := 65) (i := 1) rfl rfl dX2_copyFrom_64 rfl ?_
  refine e_getR (a := 33) (b := 37) (k0 := 3) (pc' := 68) dX2_copyFrom_65 rfl rfl (Nat.le_of_ble_eq_true rfl) (Nat.le_of_ble_eq_true rfl) rfl mw_138 rfl ?_
  refine e_iconst (v := 0) (pc' := 69) (by decide) dX2_copyFrom_68 rfl ?_
  refine e_aload_n (pc' := 70) (i := 0) rfl rfl dX2_copyFrom_69 rfl ?_
  refine e_getR (a := 1) (b := 5) (k0 := 3) (pc' := 73) dX2_copyFrom_70 rfl rfl (Nat.le_of_ble_eq_true rfl) (Nat.le_of_ble_eq_true rfl) rfl mw_138 rfl ?_
  refine e_iconst (v := 0) (pc' := 74) (by decide) dX2_copyFrom_73 rfl ?_
  refine e_aload_n (pc' := 75) (i := 0) rfl rfl dX2_copyFrom_74 rfl ?_
  refine e_getI (a := 1) (n := 20) (k0 := 4) (pc' := 78) dX2_copyFrom_75 rfl rfl (Nat.le_of_ble_eq_true rfl) (Nat.le_of_ble_eq_true rfl) rfl mw_142 rfl ?_
  refine e_copy (pc' := 81) (n0 := 32) (n1 := 32) dX2_copyFrom_78 rfl mw_417 mw_419 mw_418 mw_108 (Nat.le_of_ble_eq_true rfl) (Nat.le_of_ble_eq_true rfl) rfl (Nat.le_of_ble_eq_true rfl) rfl (Nat.le_of_ble_eq_true rfl) h (fun h => ?_)
  refine e_ltA h (fun A5 h => ?_)
  obtain ⟨rfl, rfl, rfl⟩ := g_re3 h
  exact e_vret dX2_copyFrom_81
set_option maxHeartbeats 4000000 in
set_option maxRecDepth 100000 in
theorem c_X5_takeBack_1  {I : Nat → Int32} {A : Nat → Nat → Int32} {L : Nat → Int64} {I' : Nat → Int32} {A' : Nat → Nat → Int32} {L' : Nat → Int64} (h : f_X5_takeBack 1  I A L = some (I', A', L')) : GM 70 yX5_takeBack cX5_takeBack 2 none 2 [.ref 11, .ref 1] I A L (none, (I', A', L')) := by
  refine gm_of (n := 0) (lc := [some (.ref 11), some (.ref 1)]) (by decide +kernel) rfl (fun _ => Nat.le_of_ble_eq_true rfl) ?_
  change Ev 70 RX5 cX5_takeBack 2 none 2 0 [some (.ref 11), some (.ref 1)] [] I A L _
  unfold f_X5_takeBack at h
  refine e_aload_n (pc' := 1) (i := 1) rfl rfl dX5_takeBack_0 rfl ?_
  refine e_aload_n (pc' := 2) (i := 0) rfl rfl dX5_takeBack_1 rfl ?_
  refine e_getR (a := 11) (b := 12) (k0 := 0) (pc' := 5) dX5_takeBack_2 rfl rfl (Nat.le_of_ble_eq_true rfl) (Nat.le_of_ble_eq_true rfl) rfl mw_168 rfl ?_
  refine e_aload_n (pc' := 6) (i := 0) rfl rfl dX5_takeBack_5 rfl ?_
  refine e_getI (a := 11) (n := 177) (k0 := 1) (pc' := 9) dX5_takeBack_6 rfl rfl (Nat.le_of_ble_eq_true rfl) (Nat.le_of_ble_eq_true rfl) rfl mw_169 rfl ?_
  refine e_ring (pc' := 10) dX5_takeBack_9 rfl (Nat.le_of_ble_eq_true rfl) h (fun h hj1 => ?_)
  rcases (show (Int32.toNatClampNeg (I 177)) = 0 ∨ (Int32.toNatClampNeg (I 177)) = 1 ∨ (Int32.toNatClampNeg (I 177)) = 2 ∨ (Int32.toNatClampNeg (I 177)) = 3 ∨ (Int32.toNatClampNeg (I 177)) = 4 by omega) with hq2 | hq9 | hq16 | hq23 | hq30
  · rw [hq2] at h ⊢
    obtain ⟨I4, A5, L6, hF3, h⟩ := g_b1_e h
    refine e_callVN_v (pc' := 13) dX5_takeBack_10 rfl mw_413 mv_X2_copyFrom rfl (Nat.le_of_ble_eq_true rfl) (Nat.le_of_ble_eq_true rfl) rfl (Nat.le_of_ble_eq_true rfl) (Nat.le_of_ble_eq_true rfl) rfl (c_X2_copyFrom_1_13 hF3) rfl ?_
    refine e_aload_n (pc' := 14) (i := 0) rfl rfl dX5_takeBack_13 rfl ?_
    refine e_aload_n (pc' := 15) (i := 0) rfl rfl dX5_takeBack_14 rfl ?_
    refine e_getI (a := 11) (n := 177) (k0 := 1) (pc' := 18) dX5_takeBack_15 rfl rfl (Nat.le_of_ble_eq_true rfl) (Nat.le_of_ble_eq_true rfl) rfl mw_169 rfl ?_
    refine e_iconst (v := 5) (pc' := 19) (by decide) dX5_takeBack_18 rfl ?_
    refine e_iadd (pc' := 20) dX5_takeBack_19 rfl ?_
    refine e_iconst (v := 1) (pc' := 21) (by decide) dX5_takeBack_20 rfl ?_
    refine e_isub (pc' := 22) dX5_takeBack_21 rfl ?_
    refine e_iconst (v := 5) (pc' := 23) (by decide) dX5_takeBack_22 rfl ?_
    refine e_irem (pc' := 24) (by decide) dX5_takeBack_23 rfl ?_
    refine e_putI (a := 11) (n := 177) (k0 := 1) (pc' := 27) dX5_takeBack_24 rfl rfl (Nat.le_of_ble_eq_true rfl) (Nat.le_of_ble_eq_true rfl) rfl mw_169 rfl rfl g_pI rfl rfl ?_
    refine e_ltI h (fun I7 h => ?_)
    refine e_aload_n (pc' := 28) (i := 0) rfl rfl dX5_takeBack_27 rfl ?_
    refine e_dup (pc' := 29) rfl dX5_takeBack_28 rfl ?_
    refine e_getI (a := 11) (n := 178) (k0 := 2) (pc' := 32) dX5_takeBack_29 rfl rfl (Nat.le_of_ble_eq_true rfl) (Nat.le_of_ble_eq_true rfl) rfl mw_170 rfl ?_
    refine e_iconst (v := 1) (pc' := 33) (by decide) dX5_takeBack_32 rfl ?_
    refine e_isub (pc' := 34) dX5_takeBack_33 rfl ?_
    refine e_putI (a := 11) (n := 178) (k0 := 2) (pc' := 37) dX5_takeBack_34 rfl rfl (Nat.le_of_ble_eq_true rfl) (Nat.le_of_ble_eq_true rfl) rfl mw_170 rfl rfl g_pI rfl rfl ?_
    refine e_ltI h (fun I8 h => ?_)
    obtain ⟨rfl, rfl, rfl⟩ := g_re3 h
    exact e_vret dX5_takeBack_37
  · rw [hq9] at h ⊢
    obtain ⟨I11, A12, L13, hF10, h⟩ := g_b1_e h
    refine e_callVN_v (pc' := 13) dX5_takeBack_10 rfl mw_413 mv_X2_copyFrom rfl (Nat.le_of_ble_eq_true rfl) (Nat.le_of_ble_eq_true rfl) rfl (Nat.le_of_ble_eq_true rfl) (Nat.le_of_ble_eq_true rfl) rfl (c_X2_copyFrom_1_18 hF10) rfl ?_
    refine e_aload_n (pc' := 14) (i := 0) rfl rfl dX5_takeBack_13 rfl ?_
    refine e_aload_n (pc' := 15) (i := 0) rfl rfl dX5_takeBack_14 rfl ?_
    refine e_getI (a := 11) (n := 177) (k0 := 1) (pc' := 18) dX5_takeBack_15 rfl rfl (Nat.le_of_ble_eq_true rfl) (Nat.le_of_ble_eq_true rfl) rfl mw_169 rfl ?_
    refine e_iconst (v := 5) (pc' := 19) (by decide) dX5_takeBack_18 rfl ?_
    refine e_iadd (pc' := 20) dX5_takeBack_19 rfl ?_
    refine e_iconst (v := 1) (pc' := 21) (by decide) dX5_takeBack_20 rfl ?_
    refine e_isub (pc' := 22) dX5_takeBack_21 rfl ?_
    refine e_iconst (v := 5) (pc' := 23) (by decide) dX5_takeBack_22 rfl ?_
    refine e_irem (pc' := 24) (by decide) dX5_takeBack_23 rfl ?_
    refine e_putI (a := 11) (n := 177) (k0 := 1) (pc' := 27) dX5_takeBack_24 rfl rfl (Nat.le_of_ble_eq_true rfl) (Nat.le_of_ble_eq_true rfl) rfl mw_169 rfl rfl g_pI rfl rfl ?_
    refine e_ltI h (fun I14 h => ?_)
    refine e_aload_n (pc' := 28) (i := 0) rfl rfl dX5_takeBack_27 rfl ?_
    refine e_dup (pc' := 29) rfl dX5_takeBack_28 rfl ?_
    refine e_getI (a := 11) (n := 178) (k0 := 2) (pc' := 32) dX5_takeBack_29 rfl rfl (Nat.le_of_ble_eq_true rfl) (Nat.le_of_ble_eq_true rfl) rfl mw_170 rfl ?_
    refine e_iconst (v := 1) (pc' := 33) (by decide) dX5_takeBack_32 rfl ?_
    refine e_isub (pc' := 34) dX5_takeBack_33 rfl ?_
    refine e_putI (a := 11) (n := 178) (k0 := 2) (pc' := 37) dX5_takeBack_34 rfl rfl (Nat.le_of_ble_eq_true rfl) (Nat.le_of_ble_eq_true rfl) rfl mw_170 rfl rfl g_pI rfl rfl ?_
    refine e_ltI h (fun I15 h => ?_)
    obtain ⟨rfl, rfl, rfl⟩ := g_re3 h
    exact e_vret dX5_takeBack_37
  · rw [hq16] at h ⊢
    obtain ⟨I18, A19, L20, hF17, h⟩ := g_b1_e h
    refine e_callVN_v (pc' := 13) dX5_takeBack_10 rfl mw_413 mv_X2_copyFrom rfl (Nat.le_of_ble_eq_true rfl) (Nat.le_of_ble_eq_true rfl) rfl (Nat.le_of_ble_eq_true rfl) (Nat.le_of_ble_eq_true rfl) rfl (c_X2_copyFrom_1_23 hF17) rfl ?_
    refine e_aload_n (pc' := 14) (i := 0) rfl rfl dX5_takeBack_13 rfl ?_
    refine e_aload_n (pc' := 15) (i := 0) rfl rfl dX5_takeBack_14 rfl ?_
    refine e_getI (a := 11) (n := 177) (k0 := 1) (pc' := 18) dX5_takeBack_15 rfl rfl (Nat.le_of_ble_eq_true rfl) (Nat.le_of_ble_eq_true rfl) rfl mw_169 rfl ?_
    refine e_iconst (v := 5) (pc' := 19) (by decide) dX5_takeBack_18 rfl ?_
    refine e_iadd (pc' := 20) dX5_takeBack_19 rfl ?_
    refine e_iconst (v := 1) (pc' := 21) (by decide) dX5_takeBack_20 rfl ?_
    refine e_isub (pc' := 22) dX5_takeBack_21 rfl ?_
    refine e_iconst (v := 5) (pc' := 23) (by decide) dX5_takeBack_22 rfl ?_
    refine e_irem (pc' := 24) (by decide) dX5_takeBack_23 rfl ?_
    refine e_putI (a := 11) (n := 177) (k0 := 1) (pc' := 27) dX5_takeBack_24 rfl rfl (Nat.le_of_ble_eq_true rfl) (Nat.le_of_ble_eq_true rfl) rfl mw_169 rfl rfl g_pI rfl rfl ?_
    refine e_ltI h (fun I21 h => ?_)
    refine e_aload_n (pc' := 28) (i := 0) rfl rfl dX5_takeBack_27 rfl ?_
    refine e_dup (pc' := 29) rfl dX5_takeBack_28 rfl ?_
    refine e_getI (a := 11) (n := 178) (k0 := 2) (pc' := 32) dX5_takeBack_29 rfl rfl (Nat.le_of_ble_eq_true rfl) (Nat.le_of_ble_eq_true rfl) rfl mw_170 rfl ?_
    refine e_iconst (v := 1) (pc' := 33) (by decide) dX5_takeBack_32 rfl ?_
    refine e_isub (pc' := 34) dX5_takeBack_33 rfl ?_
    refine e_putI (a := 11) (n := 178) (k0 := 2) (pc' := 37) dX5_takeBack_34 rfl rfl (Nat.le_of_ble_eq_true rfl) (Nat.le_of_ble_eq_true rfl) rfl mw_170 rfl rfl g_pI rfl rfl ?_
    refine e_ltI h (fun I22 h => ?_)
    obtain ⟨rfl, rfl, rfl⟩ := g_re3 h
    exact e_vret dX5_takeBack_37
  · rw [hq23] at h ⊢
    obtain ⟨I25, A26, L27, hF24, h⟩ := g_b1_e h
    refine e_callVN_v (pc' := 13) dX5_takeBack_10 rfl mw_413 mv_X2_copyFrom rfl (Nat.le_of_ble_eq_true rfl) (Nat.le_of_ble_eq_true rfl) rfl (Nat.le_of_ble_eq_true rfl) (Nat.le_of_ble_eq_true rfl) rfl (c_X2_copyFrom_1_28 hF24) rfl ?_
    refine e_aload_n (pc' := 14) (i := 0) rfl rfl dX5_takeBack_13 rfl ?_
    refine e_aload_n (pc' := 15) (i := 0) rfl rfl dX5_takeBack_14 rfl ?_
    refine e_getI (a := 11) (n := 177) (k0 := 1) (pc' := 18) dX5_takeBack_15 rfl rfl (Nat.le_of_ble_eq_true rfl) (Nat.le_of_ble_eq_true rfl) rfl mw_169 rfl ?_
    refine e_iconst (v := 5) (pc' := 19) (by decide) dX5_takeBack_18 rfl ?_
    refine e_iadd (pc' := 20) dX5_takeBack_19 rfl ?_
    refine e_iconst (v := 1) (pc' := 21) (by decide) dX5_takeBack_20 rfl ?_
    refine e_isub (pc' := 22) dX5_takeBack_21 rfl ?_
    refine e_iconst (v := 5) (pc' := 23) (by decide) dX5_takeBack_22 rfl ?_
    refine e_irem (pc' := 24) (by decide) dX5_takeBack_23 rfl ?_
    refine e_putI (a := 11) (n := 177) (k0 := 1) (pc' := 27) dX5_takeBack_24 rfl rfl (Nat.le_of_ble_eq_true rfl) (Nat.le_of_ble_eq_true rfl) rfl mw_169 rfl rfl g_pI rfl rfl ?_
    refine e_ltI h (fun I28 h => ?_)
    refine e_aload_n (pc' := 28) (i := 0) rfl rfl dX5_takeBack_27 rfl ?_
    refine e_dup (pc' := 29) rfl dX5_takeBack_28 rfl ?_
    refine e_getI (a := 11) (n := 178) (k0 := 2) (pc' := 32) dX5_takeBack_29 rfl rfl (Nat.le_of_ble_eq_true rfl) (Nat.le_of_ble_eq_true rfl) rfl mw_170 rfl ?_
    refine e_iconst (v := 1) (pc' := 33) (by decide) dX5_takeBack_32 rfl ?_
    refine e_isub (pc' := 34) dX5_takeBack_33 rfl ?_
    refine e_putI (a := 11) (n := 178) (k0 := 2) (pc' := 37) dX5_takeBack_34 rfl rfl (Nat.le_of_ble_eq_true rfl) (Nat.le_of_ble_eq_true rfl) rfl mw_170 rfl rfl g_pI rfl rfl ?_
    refine e_ltI h (fun I29 h => ?_)
    obtain ⟨rfl, rfl, rfl⟩ := g_re3 h
    exact e_vret dX5_takeBack_37
  · rw [hq30] at h ⊢
    obtain ⟨I32, A33, L34, hF31, h⟩ := g_b1_e h
    refine e_callVN_v (pc' := 13) dX5_takeBack_10 rfl mw_413 mv_X2_copyFrom rfl (Nat.le_of_ble_eq_true rfl) (Nat.le_of_ble_eq_true rfl) rfl (Nat.le_of_ble_eq_true rfl) (Nat.le_of_ble_eq_true rfl) rfl (c_X2_copyFrom_1_33 hF31) rfl ?_
    refine e_aload_n (pc' := 14) (i := 0) rfl rfl dX5_takeBack_13 rfl ?_
    refine e_aload_n (pc' := 15) (i := 0) rfl rfl dX5_takeBack_14 rfl ?_
    refine e_getI (a := 11) (n := 177) (k0 := 1) (pc' := 18) dX5_takeBack_15 rfl rfl (Nat.le_of_ble_eq_true rfl) (Nat.le_of_ble_eq_true rfl) rfl mw_169 rfl ?_
    refine e_iconst (v := 5) (pc' := 19) (by decide) dX5_takeBack_18 rfl ?_
    refine e_iadd (pc' := 20) dX5_takeBack_19 rfl ?_
    refine e_iconst (v := 1) (pc' := 21) (by decide) dX5_takeBack_20 rfl ?_
    refine e_isub (pc' := 22) dX5_takeBack_21 rfl ?_
    refine e_iconst (v := 5) (pc' := 23) (by decide) dX5_takeBack_22 rfl ?_
    refine e_irem (pc' := 24) (by decide) dX5_takeBack_23 rfl ?_
    refine e_putI (a := 11) (n := 177) (k0 := 1) (pc' := 27) dX5_takeBack_24 rfl rfl (Nat.le_of_ble_eq_true rfl) (Nat.le_of_ble_eq_true rfl) rfl mw_169 rfl rfl g_pI rfl rfl ?_
    refine e_ltI h (fun I35 h => ?_)
    refine e_aload_n (pc' := 28) (i := 0) rfl rfl dX5_takeBack_27 rfl ?_
    refine e_dup (pc' := 29) rfl dX5_takeBack_28 rfl ?_
    refine e_getI (a := 11) (n := 178) (k0 := 2) (pc' := 32) dX5_takeBack_29 rfl rfl (Nat.le_of_ble_eq_true rfl) (Nat.le_of_ble_eq_true rfl) rfl mw_170 rfl ?_
    refine e_iconst (v := 1) (pc' := 33) (by decide) dX5_takeBack_32 rfl ?_
    refine e_isub (pc' := 34) dX5_takeBack_33 rfl ?_
    refine e_putI (a := 11) (n := 178) (k0 := 2) (pc' := 37) dX5_takeBack_34 rfl rfl (Nat.le_of_ble_eq_true rfl) (Nat.le_of_ble_eq_true rfl) rfl mw_170 rfl rfl g_pI rfl rfl ?_
    refine e_ltI h (fun I36 h => ?_)
    obtain ⟨rfl, rfl, rfl⟩ := g_re3 h
    exact e_vret dX5_takeBack_37
set_option maxHeartbeats 4000000 in
set_option maxRecDepth 100000 in
theorem c_X6_back  {I : Nat → Int32} {A : Nat → Nat → Int32} {L : Nat → Int64} {t : Int32} {I' : Nat → Int32} {A' : Nat → Nat → Int32} {L' : Nat → Int64} (h : f_X6_back   I A L = some (t, I', A', L')) : GM 70 yX6_back cX6_back 1 (some .int) 3 [.ref 0] I A L (some (.int t), (I', A', L')) := by
  refine gm_of (n := 0) (lc := [some (.ref 0)]) (by decide +kernel) rfl (fun _ => Nat.le_of_ble_eq_true rfl) ?_
  change Ev 70 RX6 cX6_back 1 (some .int) 3 0 [some (.ref 0)] [] I A L _
  unfold f_X6_back at h
  refine e_aload_n (pc' := 1) (i := 0) rfl rfl dX6_back_0 rfl ?_
  refine e_getR (a := 0) (b := 11) (k0 := 2) (pc' := 4) dX6_back_1 rfl rfl (Nat.le_of_ble_eq_true rfl) (Nat.le_of_ble_eq_true rfl) rfl mw_337 rfl ?_
  refine e_getIN (a := 11) (n := 178) (k0 := 2) (pc' := 7) dX6_back_4 rfl rfl (Nat.le_of_ble_eq_true rfl) (Nat.le_of_ble_eq_true rfl) rfl mw_171 rfl ?_
  refine e_if_gt (tgt := 15) (pc' := 10) dX6_back_7 (by decide) rfl h (fun h => ?_) (fun h => ?_)
  · refine e_aload_n (pc' := 16) (i := 0) rfl rfl dX6_back_15 rfl ?_
    refine e_getR (a := 0) (b := 11) (k0 := 2) (pc' := 19) dX6_back_16 rfl rfl (Nat.le_of_ble_eq_true rfl) (Nat.le_of_ble_eq_true rfl) rfl mw_337 rfl ?_
    refine e_aload_n (pc' := 20) (i := 0) rfl rfl dX6_back_19 rfl ?_
    refine e_getR (a := 0) (b := 1) (k0 := 0) (pc' := 23) dX6_back_20 rfl rfl (Nat.le_of_ble_eq_true rfl) (Nat.le_of_ble_eq_true rfl) rfl mw_335 rfl ?_
    obtain ⟨I2, A3, L4, hF1, h⟩ := g_b1_e h
    refine e_callVN_v (pc' := 26) dX6_back_23 rfl mw_765 mv_X5_takeBack rfl (Nat.le_of_ble_eq_true rfl) (Nat.le_of_ble_eq_true rfl) rfl (Nat.le_of_ble_eq_true rfl) (Nat.le_of_ble_eq_true rfl) rfl (c_X5_takeBack_1 hF1) rfl ?_
    refine e_aload_n (pc' := 27) (i := 0) rfl rfl dX6_back_26 rfl ?_
    obtain ⟨I6, A7, L8, hF5, h⟩ := g_b1_e h
    refine e_callV_v (pc' := 30) dX6_back_27 rfl mw_423 mv_X6_forgetCrystal rfl (Nat.le_of_ble_eq_true rfl) (Nat.le_of_ble_eq_true rfl) rfl (Nat.le_of_ble_eq_true rfl) (Nat.le_of_ble_eq_true rfl) rfl (c_X6_forgetCrystal hF5) rfl ?_
    refine e_aload_n (pc' := 31) (i := 0) rfl rfl dX6_back_30 rfl ?_
    refine e_getR (a := 0) (b := 11) (k0 := 2) (pc' := 34) dX6_back_31 rfl rfl (Nat.le_of_ble_eq_true rfl) (Nat.le_of_ble_eq_true rfl) rfl mw_337 rfl ?_
    refine e_getIN (a := 11) (n := 178) (k0 := 2) (pc' := 37) dX6_back_34 rfl rfl (Nat.le_of_ble_eq_true rfl) (Nat.le_of_ble_eq_true rfl) rfl mw_171 rfl ?_
    obtain ⟨rfl, rfl, rfl, rfl⟩ := g_re4 h
    exact e_iret dX6_back_37
  · refine e_aload_n (pc' := 11) (i := 0) rfl rfl dX6_back_10 rfl ?_
    obtain ⟨v13, I10, A11, L12, hF9, h⟩ := g_b2_e h
    refine e_callV_i (pc' := 14) dX6_back_11 rfl mw_623 mv_X6_refuseNo rfl (Nat.le_of_ble_eq_true rfl) (Nat.le_of_ble_eq_true rfl) rfl (Nat.le_of_ble_eq_true rfl) (Nat.le_of_ble_eq_true rfl) rfl (c_X6_refuseNo hF9) rfl ?_
    obtain ⟨rfl, rfl, rfl, rfl⟩ := g_re4 h
    exact e_iret dX6_back_14
set_option maxHeartbeats 4000000 in
set_option maxRecDepth 100000 in
theorem c_X6_howMany (a0 : Int32) {I : Nat → Int32} {A : Nat → Nat → Int32} {L : Nat → Int64} {t : Int32} (h : f_X6_howMany I A L a0 = some t) : GM 70 yX6_howMany cX6_howMany 2 (some .int) 0 [.ref 0, .int a0] I A L (some (.int t), (I, A, L)) := by
  refine gm_of (n := 0) (lc := [some (.ref 0), some (.int a0)]) (by decide +kernel) rfl (fun _ => Nat.le_of_ble_eq_true rfl) ?_
  change Ev 70 RX6 cX6_howMany 2 (some .int) 0 0 [some (.ref 0), some (.int a0)] [] I A L _
  unfold f_X6_howMany at h
  refine e_iload_n (pc' := 1) (i := 1) rfl rfl dX6_howMany_0 rfl ?_
  by_cases q1 : a0 = 0
  · rw [if_pos q1] at h
    refine e_swIn (off := 35) (tgt := 36) dX6_howMany_1 (by rw [q1]; decide) (by rw [q1]; decide) (by rw [q1]; rfl) (by decide) ?_
    refine e_aload_n (pc' := 37) (i := 0) rfl rfl dX6_howMany_36 rfl ?_
    refine e_getI (a := 0) (n := 13) (k0 := 13) (pc' := 40) dX6_howMany_37 rfl rfl (Nat.le_of_ble_eq_true rfl) (Nat.le_of_ble_eq_true rfl) rfl mw_348 rfl ?_
    obtain rfl := g_re1 h
    exact e_iret dX6_howMany_40
  rw [if_neg q1] at h
  by_cases q2 : a0 = 1
  · rw [if_pos q2] at h
    refine e_swIn (off := 40) (tgt := 41) dX6_howMany_1 (by rw [q2]; decide) (by rw [q2]; decide) (by rw [q2]; rfl) (by decide) ?_
    refine e_aload_n (pc' := 42) (i := 0) rfl rfl dX6_howMany_41 rfl ?_
    refine e_getI (a := 0) (n := 14) (k0 := 14) (pc' := 45) dX6_howMany_42 rfl rfl (Nat.le_of_ble_eq_true rfl) (Nat.le_of_ble_eq_true rfl) rfl mw_349 rfl ?_
    obtain rfl := g_re1 h
    exact e_iret dX6_howMany_45
  rw [if_neg q2] at h
  by_cases q3 : a0 = 2
  · rw [if_pos q3] at h
    refine e_swIn (off := 45) (tgt := 46) dX6_howMany_1 (by rw [q3]; decide) (by rw [q3]; decide) (by rw [q3]; rfl) (by decide) ?_
    refine e_aload_n (pc' := 47) (i := 0) rfl rfl dX6_howMany_46 rfl ?_
    refine e_getI (a := 0) (n := 15) (k0 := 15) (pc' := 50) dX6_howMany_47 rfl rfl (Nat.le_of_ble_eq_true rfl) (Nat.le_of_ble_eq_true rfl) rfl mw_350 rfl ?_
    obtain rfl := g_re1 h
    exact e_iret dX6_howMany_50
  rw [if_neg q3] at h
  by_cases q4 : a0 = 3
  · rw [if_pos q4] at h
    refine e_swIn (off := 50) (tgt := 51) dX6_howMany_1 (by rw [q4]; decide) (by rw [q4]; decide) (by rw [q4]; rfl) (by decide) ?_
    refine e_aload_n (pc' := 52) (i := 0) rfl rfl dX6_howMany_51 rfl ?_
    refine e_getR (a := 0) (b := 57) (k0 := 6) (pc' := 55) dX6_howMany_52 rfl rfl (Nat.le_of_ble_eq_true rfl) (Nat.le_of_ble_eq_true rfl) rfl mw_341 rfl ?_
    refine e_getIN (a := 57) (n := 913) (k0 := 1) (pc' := 58) dX6_howMany_55 rfl rfl (Nat.le_of_ble_eq_true rfl) (Nat.le_of_ble_eq_true rfl) rfl mw_299 rfl ?_
    obtain rfl := g_re1 h
    exact e_iret dX6_howMany_58
  rw [if_neg q4] at h
  by_cases q5 : a0 = 4
  · rw [if_pos q5] at h
    refine e_swIn (off := 58) (tgt := 59) dX6_howMany_1 (by rw [q5]; decide) (by rw [q5]; decide) (by rw [q5]; rfl) (by decide) ?_
    refine e_aload_n (pc' := 60) (i := 0) rfl rfl dX6_howMany_59 rfl ?_
    refine e_getR (a := 0) (b := 1) (k0 := 0) (pc' := 63) dX6_howMany_60 rfl rfl (Nat.le_of_ble_eq_true rfl) (Nat.le_of_ble_eq_true rfl) rfl mw_335 rfl ?_
    refine e_getIN (a := 1) (n := 20) (k0 := 4) (pc' := 66) dX6_howMany_63 rfl rfl (Nat.le_of_ble_eq_true rfl) (Nat.le_of_ble_eq_true rfl) rfl mw_144 rfl ?_
    obtain rfl := g_re1 h
    exact e_iret dX6_howMany_66
  rw [if_neg q5] at h
  refine e_swOut (tgt := 67) dX6_howMany_1 (g_swo4 q1 q2 q3 q4 q5) (by decide) ?_
  refine e_aload_n (pc' := 68) (i := 0) rfl rfl dX6_howMany_67 rfl ?_
  refine e_getR (a := 0) (b := 11) (k0 := 2) (pc' := 71) dX6_howMany_68 rfl rfl (Nat.le_of_ble_eq_true rfl) (Nat.le_of_ble_eq_true rfl) rfl mw_337 rfl ?_
  refine e_getIN (a := 11) (n := 178) (k0 := 2) (pc' := 74) dX6_howMany_71 rfl rfl (Nat.le_of_ble_eq_true rfl) (Nat.le_of_ble_eq_true rfl) rfl mw_171 rfl ?_
  obtain rfl := g_re1 h
  exact e_iret dX6_howMany_74
set_option maxHeartbeats 4000000 in
set_option maxRecDepth 100000 in
theorem w_X6_told_p9  : ∀ (I : Nat → Int32) (A : Nat → Nat → Int32) (L : Nat → Int64) (t : (Int32 × gS)), f_X6_told_p9 I A L = some t → Ev 70 RX6 cX6_told 2 (some .int) 1 9 [some (.ref 0), none] [] I A L (some (.int t.1), t.2) := by
  intro  I A L t h
  unfold f_X6_told_p9 at h
  refine e_aload_n (pc' := 10) (i := 0) rfl rfl dX6_told_9 rfl ?_
  refine e_bipush (v := (-2)) (pc' := 12) (by decide) dX6_told_10 rfl ?_
  obtain ⟨v5, I2, A3, L4, hF1, h⟩ := g_b2_e h
  refine e_callV_i (pc' := 15) dX6_told_12 rfl mw_397 mv_X6_refuseBad rfl (Nat.le_of_ble_eq_true rfl) (Nat.le_of_ble_eq_true rfl) rfl (Nat.le_of_ble_eq_true rfl) (Nat.le_of_ble_eq_true rfl) rfl (c_X6_refuseBad _ hF1) rfl ?_
  obtain rfl := g_re1 h
  exact e_iret dX6_told_15
set_option maxHeartbeats 4000000 in
set_option maxRecDepth 100000 in
theorem c_X6_told (a0 : Int32) {I : Nat → Int32} {A : Nat → Nat → Int32} {L : Nat → Int64} {t : Int32} {I' : Nat → Int32} {A' : Nat → Nat → Int32} {L' : Nat → Int64} (h : f_X6_told  a0 I A L = some (t, I', A', L')) : GM 70 yX6_told cX6_told 2 (some .int) 1 [.ref 0, .int a0] I A L (some (.int t), (I', A', L')) := by
  refine gm_of (n := 0) (lc := [some (.ref 0), some (.int a0)]) (by decide +kernel) rfl (fun _ => Nat.le_of_ble_eq_true rfl) ?_
  change Ev 70 RX6 cX6_told 2 (some .int) 1 0 [some (.ref 0), some (.int a0)] [] I A L _
  unfold f_X6_told at h
  refine e_iload_n (pc' := 1) (i := 1) rfl rfl dX6_told_0 rfl ?_
  refine e_if_lt (tgt := 9) (pc' := 4) dX6_told_1 (by decide) rfl h (fun h => ?_) (fun h => ?_)
  · exact e_weak (lc' := [some (.ref 0), none]) (gle_s (gle_n gle_0)) (w_X6_told_p9  _ _ _ _ h)
  · refine e_iload_n (pc' := 5) (i := 1) rfl rfl dX6_told_4 rfl ?_
    refine e_iconst (v := 5) (pc' := 6) (by decide) dX6_told_5 rfl ?_
    refine e_icmp_le (tgt := 16) (pc' := 9) dX6_told_6 (by decide) rfl h (fun h => ?_) (fun h => ?_)
    · refine e_aload_n (pc' := 17) (i := 0) rfl rfl dX6_told_16 rfl ?_
      refine e_iload_n (pc' := 18) (i := 1) rfl rfl dX6_told_17 rfl ?_
      obtain ⟨v2, hF1, h⟩ := g_bd_e h
      refine e_callV_i (pc' := 21) dX6_told_18 rfl mw_773 mv_X6_howMany rfl (Nat.le_of_ble_eq_true rfl) (Nat.le_of_ble_eq_true rfl) rfl (Nat.le_of_ble_eq_true rfl) (Nat.le_of_ble_eq_true rfl) rfl (c_X6_howMany _ hF1) rfl ?_
      obtain ⟨rfl, rfl, rfl, rfl⟩ := g_re4 h
      exact e_iret dX6_told_21
    · exact e_weak (lc' := [some (.ref 0), none]) (gle_s (gle_n gle_0)) (w_X6_told_p9  _ _ _ _ h)
set_option maxHeartbeats 4000000 in
set_option maxRecDepth 100000 in
theorem w_X4_addCornersTo_38_p17 (I : Nat → Int32) (A : Nat → Nat → Int32) (L : Nat → Int64) (k5 : Int64 → Int32 → Option Int64) (hk5 : ∀ (x3 : Int64) (x5 : Int32) (t : Int64), k5 x3 x5 = some t → Ev 70 RX4 cX4_addCornersTo 9 (some .long) 2 5 [some (.ref 38), none, none, some (.long x3), none, some (.int x5), none, none, none] [] I A L (some (.long t), (I, A, L))) : ∀ (n : Nat) (x3 : Int64) (x5 : Int32) (x6 : Int32) (t : Int64), f_X4_addCornersTo_p17 38 I A L k5 n x3 x5 x6 = some t → Ev 70 RX4 cX4_addCornersTo 9 (some .long) 2 17 [some (.ref 38), none, none, some (.long x3), none, some (.int x5), some (.int x6), none, none] [] I A L (some (.long t), (I, A, L)) := by
  intro n
  induction n with
  | zero =>
    intro x3 x5 x6 t h
    cases h
  | succ n ih =>
    intro x3 x5 x6 t h
    rw [f_X4_addCornersTo_p17] at h
    refine e_iload (pc' := 19) (i := 6) rfl dX4_addCornersTo_17 rfl ?_
    refine e_iconst (v := 3) (pc' := 20) (by decide) dX4_addCornersTo_19 rfl ?_
    refine e_icmp_ge (tgt := 88) (pc' := 23) dX4_addCornersTo_20 (by decide) rfl h (fun h => ?_) (fun h => ?_)
    · refine e_iinc (pc' := 91) (v := (x5 + 1)) (lc' := [some (.ref 38), none, none, some (.long x3), none, some (.int (x5 + 1)), some (.int x6), none, none]) dX4_addCornersTo_88 rfl rfl rfl (Nat.le_of_ble_eq_true rfl) rfl rfl ?_
      refine e_goto (tgt := 5) dX4_addCornersTo_91 (by decide) ?_
      exact e_weak (lc' := [some (.ref 38), none, none, some (.long x3), none, some (.int (x5 + 1)), none, none, none]) (gle_s (gle_n (gle_n (gle_s (gle_n (gle_s (gle_n (gle_n (gle_n gle_0))))))))) (hk5 _ _ _ h)
    · refine e_aload_n (pc' := 24) (i := 0) rfl rfl dX4_addCornersTo_23 rfl ?_
      refine e_iload (pc' := 26) (i := 5) rfl dX4_addCornersTo_24 rfl ?_
      refine e_iload (pc' := 28) (i := 6) rfl dX4_addCornersTo_26 rfl ?_
      obtain ⟨v2, hF1, h⟩ := g_bd_e h
      refine e_callV_i (pc' := 31) dX4_addCornersTo_28 rfl mw_786 mv_X4_coordinate rfl (Nat.le_of_ble_eq_true rfl) (Nat.le_of_ble_eq_true rfl) rfl (Nat.le_of_ble_eq_true rfl) (Nat.le_of_ble_eq_true rfl) rfl (c_X4_coordinate_38 _ _ hF1) rfl ?_
      refine e_istore (pc' := 33) (i := 7) (lc' := [some (.ref 38), none, none, some (.long x3), none, some (.int x5), some (.int x6), some (.int v2), none]) dX4_addCornersTo_31 rfl (Nat.le_of_ble_eq_true rfl) rfl rfl ?_
      refine e_iconst (v := 1) (pc' := 34) (by decide) dX4_addCornersTo_33 rfl ?_
      refine e_iload (pc' := 36) (i := 7) rfl dX4_addCornersTo_34 rfl ?_
      refine e_aload_n (pc' := 37) (i := 0) rfl rfl dX4_addCornersTo_36 rfl ?_
      refine e_getR (a := 38) (b := 42) (k0 := 3) (pc' := 40) dX4_addCornersTo_37 rfl rfl (Nat.le_of_ble_eq_true rfl) (Nat.le_of_ble_eq_true rfl) rfl mw_239 rfl ?_
      refine e_iload (pc' := 42) (i := 5) rfl dX4_addCornersTo_40 rfl ?_
      refine e_iald (n := 60) (pc' := 43) dX4_addCornersTo_42 rfl rfl (Nat.le_of_ble_eq_true rfl) h (fun h => ?_)
      obtain ⟨v4, hF3, h⟩ := g_bd_e h
      refine e_callSN_i (pc' := 46) dX4_addCornersTo_43 rfl mw_527 ms_X6_commonDivisor rfl (Nat.le_of_ble_eq_true rfl) (Nat.le_of_ble_eq_true rfl) (c_X6_commonDivisor _ _ hF3) rfl ?_
      refine e_mmax (pc' := 49) dX4_addCornersTo_46 rfl mw_612 mw_613 mw_109 mw_614 (Nat.le_of_ble_eq_true rfl) (Nat.le_of_ble_eq_true rfl) ?_
      refine e_lt h (fun v5 h => ?_)
      refine e_istore (pc' := 51) (i := 8) (lc' := [some (.ref 38), none, none, some (.long x3), none, some (.int x5), some (.int x6), some (.int v2), some (.int v5)]) dX4_addCornersTo_49 rfl (Nat.le_of_ble_eq_true rfl) rfl rfl ?_
      refine e_ldc2 (pc' := 54) mw_787 dX4_addCornersTo_51 rfl ?_
      refine e_lload_n (pc' := 55) (i := 3) rfl rfl dX4_addCornersTo_54 rfl ?_
      refine e_lmul (pc' := 56) dX4_addCornersTo_55 rfl ?_
      refine e_iload (pc' := 58) (i := 7) rfl dX4_addCornersTo_56 rfl ?_
      refine e_iload (pc' := 60) (i := 8) rfl dX4_addCornersTo_58 rfl ?_
      obtain ⟨hz6, h⟩ := g_dv_e h
      refine e_idiv (pc' := 61) hz6 dX4_addCornersTo_60 rfl ?_
      refine e_i2l (pc' := 62) dX4_addCornersTo_61 rfl ?_
      refine e_ladd (pc' := 63) dX4_addCornersTo_62 rfl ?_
      refine e_ltl h (fun v7 h => ?_)
      refine e_lstore_n (pc' := 64) (i := 3) (lc' := [some (.ref 38), none, none, some (.long v7), none, some (.int x5), some (.int x6), some (.int v2), some (.int v5)]) rfl dX4_addCornersTo_63 rfl (Nat.le_of_ble_eq_true rfl) rfl rfl ?_
      refine e_ldc2 (pc' := 67) mw_787 dX4_addCornersTo_64 rfl ?_
      refine e_lload_n (pc' := 68) (i := 3) rfl rfl dX4_addCornersTo_67 rfl ?_
      refine e_lmul (pc' := 69) dX4_addCornersTo_68 rfl ?_
      refine e_aload_n (pc' := 70) (i := 0) rfl rfl dX4_addCornersTo_69 rfl ?_
      refine e_getR (a := 38) (b := 42) (k0 := 3) (pc' := 73) dX4_addCornersTo_70 rfl rfl (Nat.le_of_ble_eq_true rfl) (Nat.le_of_ble_eq_true rfl) rfl mw_239 rfl ?_
      refine e_iload (pc' := 75) (i := 5) rfl dX4_addCornersTo_73 rfl ?_
      refine e_iald (n := 60) (pc' := 76) dX4_addCornersTo_75 rfl rfl (Nat.le_of_ble_eq_true rfl) h (fun h => ?_)
      refine e_iload (pc' := 78) (i := 8) rfl dX4_addCornersTo_76 rfl ?_
      obtain ⟨hz8, h⟩ := g_dv_e h
      refine e_idiv (pc' := 79) hz8 dX4_addCornersTo_78 rfl ?_
      refine e_i2l (pc' := 80) dX4_addCornersTo_79 rfl ?_
      refine e_ladd (pc' := 81) dX4_addCornersTo_80 rfl ?_
      refine e_ltl h (fun v9 h => ?_)
      refine e_lstore_n (pc' := 82) (i := 3) (lc' := [some (.ref 38), none, none, some (.long v9), none, some (.int x5), some (.int x6), some (.int v2), some (.int v5)]) rfl dX4_addCornersTo_81 rfl (Nat.le_of_ble_eq_true rfl) rfl rfl ?_
      refine e_iinc (pc' := 85) (v := (x6 + 1)) (lc' := [some (.ref 38), none, none, some (.long v9), none, some (.int x5), some (.int (x6 + 1)), some (.int v2), some (.int v5)]) dX4_addCornersTo_82 rfl rfl rfl (Nat.le_of_ble_eq_true rfl) rfl rfl ?_
      refine e_goto (tgt := 17) dX4_addCornersTo_85 (by decide) ?_
      exact e_weak (lc' := [some (.ref 38), none, none, some (.long v9), none, some (.int x5), some (.int (x6 + 1)), none, none]) (gle_s (gle_n (gle_n (gle_s (gle_n (gle_s (gle_s (gle_n (gle_n gle_0))))))))) (ih _ _ _ _ h)
set_option maxHeartbeats 4000000 in
set_option maxRecDepth 100000 in
theorem w_X4_addCornersTo_38_p5 (I : Nat → Int32) (A : Nat → Nat → Int32) (L : Nat → Int64) : ∀ (n : Nat) (x3 : Int64) (x5 : Int32) (t : Int64), f_X4_addCornersTo_p5 38 I A L n x3 x5 = some t → Ev 70 RX4 cX4_addCornersTo 9 (some .long) 2 5 [some (.ref 38), none, none, some (.long x3), none, some (.int x5), none, none, none] [] I A L (some (.long t), (I, A, L)) := by
  intro n
  induction n with
  | zero =>
    intro x3 x5 t h
    cases h
  | succ n ih =>
    intro x3 x5 t h
    rw [f_X4_addCornersTo_p5] at h
    refine e_iload (pc' := 7) (i := 5) rfl dX4_addCornersTo_5 rfl ?_
    refine e_aload_n (pc' := 8) (i := 0) rfl rfl dX4_addCornersTo_7 rfl ?_
    refine e_getI (a := 38) (n := 615) (k0 := 7) (pc' := 11) dX4_addCornersTo_8 rfl rfl (Nat.le_of_ble_eq_true rfl) (Nat.le_of_ble_eq_true rfl) rfl mw_246 rfl ?_
    refine e_icmp_ge (tgt := 94) (pc' := 14) dX4_addCornersTo_11 (by decide) rfl h (fun h => ?_) (fun h => ?_)
    · refine e_lload_n (pc' := 95) (i := 3) rfl rfl dX4_addCornersTo_94 rfl ?_
      obtain rfl := g_re1 h
      exact e_lret dX4_addCornersTo_95
    · refine e_iconst (v := 0) (pc' := 15) (by decide) dX4_addCornersTo_14 rfl ?_
      refine e_istore (pc' := 17) (i := 6) (lc' := [some (.ref 38), none, none, some (.long x3), none, some (.int x5), some (.int 0), none, none]) dX4_addCornersTo_15 rfl (Nat.le_of_ble_eq_true rfl) rfl rfl ?_
      exact e_weak (lc' := [some (.ref 38), none, none, some (.long x3), none, some (.int x5), some (.int 0), none, none]) (gle_s (gle_n (gle_n (gle_s (gle_n (gle_s (gle_s (gle_n (gle_n gle_0))))))))) (w_X4_addCornersTo_38_p17 I A L _ ih _ _ _ _ _ h)
set_option maxHeartbeats 4000000 in
set_option maxRecDepth 100000 in
theorem c_X4_addCornersTo_38 (a0 : Int64) {I : Nat → Int32} {A : Nat → Nat → Int32} {L : Nat → Int64} {t : Int64} (h : f_X4_addCornersTo 38 I A L a0 = some t) : GM 70 yX4_addCornersTo cX4_addCornersTo 9 (some .long) 2 [.ref 38, .long a0] I A L (some (.long t), (I, A, L)) := by
  refine gm_of (n := 6) (lc := [some (.ref 38), some (.long a0), none, none, none, none, none, none, none]) (by decide +kernel) rfl (fun _ => Nat.le_of_ble_eq_true rfl) ?_
  change Ev 70 RX4 cX4_addCornersTo 9 (some .long) 2 0 [some (.ref 38), some (.long a0), none, none, none, none, none, none, none] [] I A L _
  unfold f_X4_addCornersTo at h
  refine e_lload_n (pc' := 1) (i := 1) rfl rfl dX4_addCornersTo_0 rfl ?_
  refine e_lstore_n (pc' := 2) (i := 3) (lc' := [some (.ref 38), some (.long a0), none, some (.long a0), none, none, none, none, none]) rfl dX4_addCornersTo_1 rfl (Nat.le_of_ble_eq_true rfl) rfl rfl ?_
  refine e_iconst (v := 0) (pc' := 3) (by decide) dX4_addCornersTo_2 rfl ?_
  refine e_istore (pc' := 5) (i := 5) (lc' := [some (.ref 38), some (.long a0), none, some (.long a0), none, some (.int 0), none, none, none]) dX4_addCornersTo_3 rfl (Nat.le_of_ble_eq_true rfl) rfl rfl ?_
  exact e_weak (lc' := [some (.ref 38), none, none, some (.long a0), none, some (.int 0), none, none, none]) (gle_s (gle_n (gle_n (gle_s (gle_n (gle_s (gle_n (gle_n (gle_n gle_0))))))))) (w_X4_addCornersTo_38_p5 I A L  _ _ _ _ h)
set_option maxHeartbeats 4000000 in
set_option maxRecDepth 100000 in
theorem w_X6_digest_p56  (k41 : Int64 → Int32 → (Nat → Int32) → (Nat → Nat → Int32) → (Nat → Int64) → Option (Int64 × gS)) (hk41 : ∀ (x2 : Int64) (x4 : Int32) (I : Nat → Int32) (A : Nat → Nat → Int32) (L : Nat → Int64) (t : (Int64 × gS)), k41 x2 x4 I A L = some t → Ev 70 RX6 cX6_digest 6 (some .long) 6 41 [some (.ref 0), some (.ref 38), some (.long x2), none, some (.int x4), none] [] I A L (some (.long t.1), t.2)) : ∀ (n : Nat) (x2 : Int64) (x4 : Int32) (x5 : Int32) (I : Nat → Int32) (A : Nat → Nat → Int32) (L : Nat → Int64) (t : (Int64 × gS)), f_X6_digest_p56 k41 n x2 x4 x5 I A L = some t → Ev 70 RX6 cX6_digest 6 (some .long) 6 56 [some (.ref 0), some (.ref 38), some (.long x2), none, some (.int x4), some (.int x5)] [] I A L (some (.long t.1), t.2) := by
  intro n
  induction n with
  | zero =>
    intro x2 x4 x5 I A L t h
    cases h
  | succ n ih =>
    intro x2 x4 x5 I A L t h
    rw [f_X6_digest_p56] at h
    refine e_iload (pc' := 58) (i := 5) rfl dX6_digest_56 rfl ?_
    refine e_iconst (v := 4) (pc' := 59) (by decide) dX6_digest_58 rfl ?_
    refine e_icmp_gt (tgt := 84) (pc' := 62) dX6_digest_59 (by decide) rfl h (fun h => ?_) (fun h => ?_)
    · refine e_iinc (pc' := 87) (v := (x4 + 1)) (lc' := [some (.ref 0), some (.ref 38), some (.long x2), none, some (.int (x4 + 1)), some (.int x5)]) dX6_digest_84 rfl rfl rfl (Nat.le_of_ble_eq_true rfl) rfl rfl ?_
      refine e_goto (tgt := 41) dX6_digest_87 (by decide) ?_
      exact e_weak (lc' := [some (.ref 0), some (.ref 38), some (.long x2), none, some (.int (x4 + 1)), none]) (gle_s (gle_s (gle_s (gle_n (gle_s (gle_n gle_0)))))) (hk41 _ _ _ _ _ _ h)
    · refine e_ldc2 (pc' := 65) mw_502 dX6_digest_62 rfl ?_
      refine e_lload_n (pc' := 66) (i := 2) rfl rfl dX6_digest_65 rfl ?_
      refine e_lmul (pc' := 67) dX6_digest_66 rfl ?_
      refine e_aload_n (pc' := 68) (i := 0) rfl rfl dX6_digest_67 rfl ?_
      refine e_iload (pc' := 70) (i := 4) rfl dX6_digest_68 rfl ?_
      refine e_iload (pc' := 72) (i := 5) rfl dX6_digest_70 rfl ?_
      obtain ⟨v5, I2, A3, L4, hF1, h⟩ := g_b2_e h
      refine e_callV_i (pc' := 75) dX6_digest_72 rfl mw_572 mv_X6_ofPlane rfl (Nat.le_of_ble_eq_true rfl) (Nat.le_of_ble_eq_true rfl) rfl (Nat.le_of_ble_eq_true rfl) (Nat.le_of_ble_eq_true rfl) rfl (c_X6_ofPlane _ _ hF1) rfl ?_
      refine e_i2l (pc' := 76) dX6_digest_75 rfl ?_
      refine e_ladd (pc' := 77) dX6_digest_76 rfl ?_
      refine e_ltl h (fun v6 h => ?_)
      refine e_lstore_n (pc' := 78) (i := 2) (lc' := [some (.ref 0), some (.ref 38), some (.long v6), none, some (.int x4), some (.int x5)]) rfl dX6_digest_77 rfl (Nat.le_of_ble_eq_true rfl) rfl rfl ?_
      refine e_iinc (pc' := 81) (v := (x5 + 1)) (lc' := [some (.ref 0), some (.ref 38), some (.long v6), none, some (.int x4), some (.int (x5 + 1))]) dX6_digest_78 rfl rfl rfl (Nat.le_of_ble_eq_true rfl) rfl rfl ?_
      refine e_goto (tgt := 56) dX6_digest_81 (by decide) ?_
      exact e_weak (lc' := [some (.ref 0), some (.ref 38), some (.long v6), none, some (.int x4), some (.int (x5 + 1))]) (gle_s (gle_s (gle_s (gle_n (gle_s (gle_s gle_0)))))) (ih _ _ _ _ _ _ _ h)
set_option maxHeartbeats 4000000 in
set_option maxRecDepth 100000 in
theorem w_X6_digest_p41  : ∀ (n : Nat) (x2 : Int64) (x4 : Int32) (I : Nat → Int32) (A : Nat → Nat → Int32) (L : Nat → Int64) (t : (Int64 × gS)), f_X6_digest_p41 n x2 x4 I A L = some t → Ev 70 RX6 cX6_digest 6 (some .long) 6 41 [some (.ref 0), some (.ref 38), some (.long x2), none, some (.int x4), none] [] I A L (some (.long t.1), t.2) := by
  intro n
  induction n with
  | zero =>
    intro x2 x4 I A L t h
    cases h
  | succ n ih =>
    intro x2 x4 I A L t h
    rw [f_X6_digest_p41] at h
    refine e_iload (pc' := 43) (i := 4) rfl dX6_digest_41 rfl ?_
    refine e_aload_n (pc' := 44) (i := 0) rfl rfl dX6_digest_43 rfl ?_
    refine e_getR (a := 0) (b := 1) (k0 := 0) (pc' := 47) dX6_digest_44 rfl rfl (Nat.le_of_ble_eq_true rfl) (Nat.le_of_ble_eq_true rfl) rfl mw_335 rfl ?_
    refine e_getIN (a := 1) (n := 20) (k0 := 4) (pc' := 50) dX6_digest_47 rfl rfl (Nat.le_of_ble_eq_true rfl) (Nat.le_of_ble_eq_true rfl) rfl mw_144 rfl ?_
    refine e_icmp_ge (tgt := 90) (pc' := 53) dX6_digest_50 (by decide) rfl h (fun h => ?_) (fun h => ?_)
    · refine e_ldc2 (pc' := 93) mw_502 dX6_digest_90 rfl ?_
      refine e_lload_n (pc' := 94) (i := 2) rfl rfl dX6_digest_93 rfl ?_
      refine e_lmul (pc' := 95) dX6_digest_94 rfl ?_
      refine e_aload_n (pc' := 96) (i := 1) rfl rfl dX6_digest_95 rfl ?_
      obtain ⟨v2, hF1, h⟩ := g_bd_e h
      refine e_callVN_i (pc' := 99) dX6_digest_96 rfl mw_593 mv_X4_showing rfl (Nat.le_of_ble_eq_true rfl) (Nat.le_of_ble_eq_true rfl) rfl (Nat.le_of_ble_eq_true rfl) (Nat.le_of_ble_eq_true rfl) rfl (c_X4_showing_38 hF1) rfl ?_
      refine e_i2l (pc' := 100) dX6_digest_99 rfl ?_
      refine e_ladd (pc' := 101) dX6_digest_100 rfl ?_
      refine e_ltl h (fun v3 h => ?_)
      refine e_lstore_n (pc' := 102) (i := 2) (lc' := [some (.ref 0), some (.ref 38), some (.long v3), none, some (.int x4), none]) rfl dX6_digest_101 rfl (Nat.le_of_ble_eq_true rfl) rfl rfl ?_
      refine e_ldc2 (pc' := 105) mw_502 dX6_digest_102 rfl ?_
      refine e_lload_n (pc' := 106) (i := 2) rfl rfl dX6_digest_105 rfl ?_
      refine e_lmul (pc' := 107) dX6_digest_106 rfl ?_
      refine e_aload_n (pc' := 108) (i := 1) rfl rfl dX6_digest_107 rfl ?_
      refine e_getIN (a := 38) (n := 615) (k0 := 7) (pc' := 111) dX6_digest_108 rfl rfl (Nat.le_of_ble_eq_true rfl) (Nat.le_of_ble_eq_true rfl) rfl mw_247 rfl ?_
      refine e_i2l (pc' := 112) dX6_digest_111 rfl ?_
      refine e_ladd (pc' := 113) dX6_digest_112 rfl ?_
      refine e_ltl h (fun v4 h => ?_)
      refine e_lstore_n (pc' := 114) (i := 2) (lc' := [some (.ref 0), some (.ref 38), some (.long v4), none, some (.int x4), none]) rfl dX6_digest_113 rfl (Nat.le_of_ble_eq_true rfl) rfl rfl ?_
      refine e_ldc2 (pc' := 117) mw_502 dX6_digest_114 rfl ?_
      refine e_lload_n (pc' := 118) (i := 2) rfl rfl dX6_digest_117 rfl ?_
      refine e_lmul (pc' := 119) dX6_digest_118 rfl ?_
      refine e_aload_n (pc' := 120) (i := 1) rfl rfl dX6_digest_119 rfl ?_
      obtain ⟨v6, hF5, h⟩ := g_bd_e h
      refine e_callVN_i (pc' := 123) dX6_digest_120 rfl mw_603 mv_X4_edges rfl (Nat.le_of_ble_eq_true rfl) (Nat.le_of_ble_eq_true rfl) rfl (Nat.le_of_ble_eq_true rfl) (Nat.le_of_ble_eq_true rfl) rfl (c_X4_edges_38 hF5) rfl ?_
      refine e_i2l (pc' := 124) dX6_digest_123 rfl ?_
      refine e_ladd (pc' := 125) dX6_digest_124 rfl ?_
      refine e_ltl h (fun v7 h => ?_)
      refine e_lstore_n (pc' := 126) (i := 2) (lc' := [some (.ref 0), some (.ref 38), some (.long v7), none, some (.int x4), none]) rfl dX6_digest_125 rfl (Nat.le_of_ble_eq_true rfl) rfl rfl ?_
      refine e_ldc2 (pc' := 129) mw_502 dX6_digest_126 rfl ?_
      refine e_lload_n (pc' := 130) (i := 2) rfl rfl dX6_digest_129 rfl ?_
      refine e_lmul (pc' := 131) dX6_digest_130 rfl ?_
      refine e_aload_n (pc' := 132) (i := 0) rfl rfl dX6_digest_131 rfl ?_
      refine e_getI (a := 0) (n := 11) (k0 := 11) (pc' := 135) dX6_digest_132 rfl rfl (Nat.le_of_ble_eq_true rfl) (Nat.le_of_ble_eq_true rfl) rfl mw_346 rfl ?_
      refine e_i2l (pc' := 136) dX6_digest_135 rfl ?_
      refine e_ladd (pc' := 137) dX6_digest_136 rfl ?_
      refine e_ltl h (fun v8 h => ?_)
      refine e_lstore_n (pc' := 138) (i := 2) (lc' := [some (.ref 0), some (.ref 38), some (.long v8), none, some (.int x4), none]) rfl dX6_digest_137 rfl (Nat.le_of_ble_eq_true rfl) rfl rfl ?_
      refine e_ldc2 (pc' := 141) mw_502 dX6_digest_138 rfl ?_
      refine e_lload_n (pc' := 142) (i := 2) rfl rfl dX6_digest_141 rfl ?_
      refine e_lmul (pc' := 143) dX6_digest_142 rfl ?_
      refine e_aload_n (pc' := 144) (i := 0) rfl rfl dX6_digest_143 rfl ?_
      refine e_getI (a := 0) (n := 12) (k0 := 12) (pc' := 147) dX6_digest_144 rfl rfl (Nat.le_of_ble_eq_true rfl) (Nat.le_of_ble_eq_true rfl) rfl mw_347 rfl ?_
      refine e_i2l (pc' := 148) dX6_digest_147 rfl ?_
      refine e_ladd (pc' := 149) dX6_digest_148 rfl ?_
      refine e_ltl h (fun v9 h => ?_)
      refine e_lstore_n (pc' := 150) (i := 2) (lc' := [some (.ref 0), some (.ref 38), some (.long v9), none, some (.int x4), none]) rfl dX6_digest_149 rfl (Nat.le_of_ble_eq_true rfl) rfl rfl ?_
      refine e_aload_n (pc' := 151) (i := 1) rfl rfl dX6_digest_150 rfl ?_
      refine e_lload_n (pc' := 152) (i := 2) rfl rfl dX6_digest_151 rfl ?_
      obtain ⟨v11, hF10, h⟩ := g_bd_e h
      refine e_callVN_l (pc' := 155) dX6_digest_152 rfl mw_782 mv_X4_addCornersTo rfl (Nat.le_of_ble_eq_true rfl) (Nat.le_of_ble_eq_true rfl) rfl (Nat.le_of_ble_eq_true rfl) (Nat.le_of_ble_eq_true rfl) rfl (c_X4_addCornersTo_38 _ hF10) rfl ?_
      obtain rfl := g_re1 h
      exact e_lret dX6_digest_155
    · refine e_iconst (v := 0) (pc' := 54) (by decide) dX6_digest_53 rfl ?_
      refine e_istore (pc' := 56) (i := 5) (lc' := [some (.ref 0), some (.ref 38), some (.long x2), none, some (.int x4), some (.int 0)]) dX6_digest_54 rfl (Nat.le_of_ble_eq_true rfl) rfl rfl ?_
      exact e_weak (lc' := [some (.ref 0), some (.ref 38), some (.long x2), none, some (.int x4), some (.int 0)]) (gle_s (gle_s (gle_s (gle_n (gle_s (gle_s gle_0)))))) (w_X6_digest_p56 _ ih _ _ _ _ _ _ _ _ h)
set_option maxHeartbeats 4000000 in
set_option maxRecDepth 100000 in
theorem w_X6_digest_p12  : ∀ (n : Nat) (x2 : Int64) (x4 : Int32) (I : Nat → Int32) (A : Nat → Nat → Int32) (L : Nat → Int64) (t : (Int64 × gS)), f_X6_digest_p12 n x2 x4 I A L = some t → Ev 70 RX6 cX6_digest 6 (some .long) 6 12 [some (.ref 0), some (.ref 38), some (.long x2), none, some (.int x4), none] [] I A L (some (.long t.1), t.2) := by
  intro n
  induction n with
  | zero =>
    intro x2 x4 I A L t h
    cases h
  | succ n ih =>
    intro x2 x4 I A L t h
    rw [f_X6_digest_p12] at h
    refine e_iload (pc' := 14) (i := 4) rfl dX6_digest_12 rfl ?_
    refine e_iconst (v := 5) (pc' := 15) (by decide) dX6_digest_14 rfl ?_
    refine e_icmp_gt (tgt := 38) (pc' := 18) dX6_digest_15 (by decide) rfl h (fun h => ?_) (fun h => ?_)
    · refine e_iconst (v := 0) (pc' := 39) (by decide) dX6_digest_38 rfl ?_
      refine e_istore (pc' := 41) (i := 4) (lc' := [some (.ref 0), some (.ref 38), some (.long x2), none, some (.int 0), none]) dX6_digest_39 rfl (Nat.le_of_ble_eq_true rfl) rfl rfl ?_
      exact e_weak (lc' := [some (.ref 0), some (.ref 38), some (.long x2), none, some (.int 0), none]) (gle_s (gle_s (gle_s (gle_n (gle_s (gle_n gle_0)))))) (w_X6_digest_p41  _ _ _ _ _ _ _ h)
    · refine e_ldc2 (pc' := 21) mw_502 dX6_digest_18 rfl ?_
      refine e_lload_n (pc' := 22) (i := 2) rfl rfl dX6_digest_21 rfl ?_
      refine e_lmul (pc' := 23) dX6_digest_22 rfl ?_
      refine e_aload_n (pc' := 24) (i := 0) rfl rfl dX6_digest_23 rfl ?_
      refine e_iload (pc' := 26) (i := 4) rfl dX6_digest_24 rfl ?_
      obtain ⟨v2, hF1, h⟩ := g_bd_e h
      refine e_callV_i (pc' := 29) dX6_digest_26 rfl mw_773 mv_X6_howMany rfl (Nat.le_of_ble_eq_true rfl) (Nat.le_of_ble_eq_true rfl) rfl (Nat.le_of_ble_eq_true rfl) (Nat.le_of_ble_eq_true rfl) rfl (c_X6_howMany _ hF1) rfl ?_
      refine e_i2l (pc' := 30) dX6_digest_29 rfl ?_
      refine e_ladd (pc' := 31) dX6_digest_30 rfl ?_
      refine e_ltl h (fun v3 h => ?_)
      refine e_lstore_n (pc' := 32) (i := 2) (lc' := [some (.ref 0), some (.ref 38), some (.long v3), none, some (.int x4), none]) rfl dX6_digest_31 rfl (Nat.le_of_ble_eq_true rfl) rfl rfl ?_
      refine e_iinc (pc' := 35) (v := (x4 + 1)) (lc' := [some (.ref 0), some (.ref 38), some (.long v3), none, some (.int (x4 + 1)), none]) dX6_digest_32 rfl rfl rfl (Nat.le_of_ble_eq_true rfl) rfl rfl ?_
      refine e_goto (tgt := 12) dX6_digest_35 (by decide) ?_
      exact e_weak (lc' := [some (.ref 0), some (.ref 38), some (.long v3), none, some (.int (x4 + 1)), none]) (gle_s (gle_s (gle_s (gle_n (gle_s (gle_n gle_0)))))) (ih _ _ _ _ _ _ h)
set_option maxHeartbeats 4000000 in
set_option maxRecDepth 100000 in
theorem c_X6_digest  {I : Nat → Int32} {A : Nat → Nat → Int32} {L : Nat → Int64} {t : Int64} {I' : Nat → Int32} {A' : Nat → Nat → Int32} {L' : Nat → Int64} (h : f_X6_digest   I A L = some (t, I', A', L')) : GM 70 yX6_digest cX6_digest 6 (some .long) 6 [.ref 0] I A L (some (.long t), (I', A', L')) := by
  refine gm_of (n := 5) (lc := [some (.ref 0), none, none, none, none, none]) (by decide +kernel) rfl (fun _ => Nat.le_of_ble_eq_true rfl) ?_
  change Ev 70 RX6 cX6_digest 6 (some .long) 6 0 [some (.ref 0), none, none, none, none, none] [] I A L _
  unfold f_X6_digest at h
  refine e_aload_n (pc' := 1) (i := 0) rfl rfl dX6_digest_0 rfl ?_
  obtain ⟨I2, A3, L4, hF1, h⟩ := g_b1_e h
  refine e_callV_a (pc' := 4) dX6_digest_1 rfl mw_503 mv_X6_crystal rfl (Nat.le_of_ble_eq_true rfl) (Nat.le_of_ble_eq_true rfl) rfl (Nat.le_of_ble_eq_true rfl) (Nat.le_of_ble_eq_true rfl) rfl (c_X6_crystal hF1) rfl ?_
  refine e_astore_n (pc' := 5) (i := 1) (lc' := [some (.ref 0), some (.ref 38), none, none, none, none]) rfl dX6_digest_4 rfl (Nat.le_of_ble_eq_true rfl) rfl rfl ?_
  refine e_ldc2 (pc' := 8) mw_781 dX6_digest_5 rfl ?_
  refine e_lstore_n (pc' := 9) (i := 2) (lc' := [some (.ref 0), some (.ref 38), some (.long 2179), none, none, none]) rfl dX6_digest_8 rfl (Nat.le_of_ble_eq_true rfl) rfl rfl ?_
  refine e_iconst (v := 0) (pc' := 10) (by decide) dX6_digest_9 rfl ?_
  refine e_istore (pc' := 12) (i := 4) (lc' := [some (.ref 0), some (.ref 38), some (.long 2179), none, some (.int 0), none]) dX6_digest_10 rfl (Nat.le_of_ble_eq_true rfl) rfl rfl ?_
  exact e_weak (lc' := [some (.ref 0), some (.ref 38), some (.long 2179), none, some (.int 0), none]) (gle_s (gle_s (gle_s (gle_n (gle_s (gle_n gle_0)))))) (w_X6_digest_p12  _ _ _ _ _ _ _ h)
set_option maxHeartbeats 4000000 in
set_option maxRecDepth 100000 in
theorem c_X7_refuses (a0 : Int32) {I : Nat → Int32} {A : Nat → Nat → Int32} {L : Nat → Int64} {t : Int32} {I' : Nat → Int32} {A' : Nat → Nat → Int32} {L' : Nat → Int64} (h : f_X7_refuses  a0 I A L = some (t, I', A', L')) : GM 70 yX7_refuses cX7_refuses 2 (some .int) 0 [.ref 59, .int a0] I A L (some (.int t), (I', A', L')) := by
  refine gm_of (n := 0) (lc := [some (.ref 59), some (.int a0)]) (by decide +kernel) rfl (fun _ => Nat.le_of_ble_eq_true rfl) ?_
  change Ev 70 RX7 cX7_refuses 2 (some .int) 0 0 [some (.ref 59), some (.int a0)] [] I A L _
  unfold f_X7_refuses at h
  refine e_aload_n (pc' := 1) (i := 0) rfl rfl dX7_refuses_0 rfl ?_
  refine e_getR (a := 59) (b := 63) (k0 := 4) (pc' := 4) dX7_refuses_1 rfl rfl (Nat.le_of_ble_eq_true rfl) (Nat.le_of_ble_eq_true rfl) rfl mw_798 rfl ?_
  refine e_bipush (v := (-2)) (pc' := 6) (by decide) dX7_refuses_4 rfl ?_
  refine e_iload_n (pc' := 7) (i := 1) rfl rfl dX7_refuses_6 rfl ?_
  refine e_isub (pc' := 8) dX7_refuses_7 rfl ?_
  refine e_dup2 (pc' := 9) rfl rfl dX7_refuses_8 rfl ?_
  refine e_iald (n := 3) (pc' := 10) dX7_refuses_9 rfl rfl (Nat.le_of_ble_eq_true rfl) h (fun h => ?_)
  refine e_iconst (v := 1) (pc' := 11) (by decide) dX7_refuses_10 rfl ?_
  refine e_iadd (pc' := 12) dX7_refuses_11 rfl ?_
  refine e_iast (n := 3) (pc' := 13) dX7_refuses_12 rfl rfl (Nat.le_of_ble_eq_true rfl) h (fun h => ?_)
  refine e_ltA h (fun A1 h => ?_)
  refine e_iload_n (pc' := 14) (i := 1) rfl rfl dX7_refuses_13 rfl ?_
  obtain ⟨rfl, rfl, rfl, rfl⟩ := g_re4 h
  exact e_iret dX7_refuses_14
