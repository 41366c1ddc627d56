set_option maxHeartbeats 4000000 in
set_option maxRecDepth 100000 in
theorem c59_X2_put_1 (a0 : Int32) (a1 : Int32) (a2 : Int32) (a3 : Int32) {I : Nat → Int32} {A : Nat → Nat → Int32} {L : Nat → Int64} {I' : Nat → Int32} {A' : Nat → Nat → Int32} {L' : Nat → Int64} (h : f_X2_put 1 a0 a1 a2 a3 I A L = some (I', A', L')) : GM 59 yX2_put cX2_put 5 none 0 [.ref 1, .int a0, .int a1, .int a2, .int a3] I A L (none, (I', A', L')) := by
  refine gm_of (n := 0) (lc := [some (.ref 1), some (.int a0), some (.int a1), some (.int a2), some (.int a3)]) (by decide +kernel) rfl (fun _ => Nat.le_of_ble_eq_true rfl) ?_
  change Ev 59 RX2 cX2_put 5 none 0 0 [some (.ref 1), some (.int a0), some (.int a1), some (.int a2), some (.int a3)] [] I A L _
  unfold f_X2_put at h
  refine e_aload_n (pc' := 1) (i := 0) rfl rfl dX2_put_0 rfl ?_
  refine e_getI (a := 1) (n := 20) (k0 := 4) (pc' := 4) dX2_put_1 rfl rfl (Nat.le_of_ble_eq_true rfl) (Nat.le_of_ble_eq_true rfl) rfl mw_142 rfl ?_
  refine e_bipush (v := 32) (pc' := 6) (by decide) dX2_put_4 rfl ?_
  refine e_icmp_ge (tgt := 60) (pc' := 9) dX2_put_6 (by decide) rfl h (fun h => ?_) (fun h => ?_)
  · obtain ⟨rfl, rfl, rfl⟩ := g_re3 h
    exact e_vret dX2_put_60
  · refine e_aload_n (pc' := 10) (i := 0) rfl rfl dX2_put_9 rfl ?_
    refine e_getR (a := 1) (b := 2) (k0 := 0) (pc' := 13) dX2_put_10 rfl rfl (Nat.le_of_ble_eq_true rfl) (Nat.le_of_ble_eq_true rfl) rfl mw_126 rfl ?_
    refine e_aload_n (pc' := 14) (i := 0) rfl rfl dX2_put_13 rfl ?_
    refine e_getI (a := 1) (n := 20) (k0 := 4) (pc' := 17) dX2_put_14 rfl rfl (Nat.le_of_ble_eq_true rfl) (Nat.le_of_ble_eq_true rfl) rfl mw_142 rfl ?_
    refine e_iload_n (pc' := 18) (i := 1) rfl rfl dX2_put_17 rfl ?_
    refine e_iast (n := 32) (pc' := 19) dX2_put_18 rfl rfl (Nat.le_of_ble_eq_true rfl) h (fun h => ?_)
    refine e_ltA h (fun A1 h => ?_)
    refine e_aload_n (pc' := 20) (i := 0) rfl rfl dX2_put_19 rfl ?_
    refine e_getR (a := 1) (b := 3) (k0 := 1) (pc' := 23) dX2_put_20 rfl rfl (Nat.le_of_ble_eq_true rfl) (Nat.le_of_ble_eq_true rfl) rfl mw_130 rfl ?_
    refine e_aload_n (pc' := 24) (i := 0) rfl rfl dX2_put_23 rfl ?_
    refine e_getI (a := 1) (n := 20) (k0 := 4) (pc' := 27) dX2_put_24 rfl rfl (Nat.le_of_ble_eq_true rfl) (Nat.le_of_ble_eq_true rfl) rfl mw_142 rfl ?_
    refine e_iload_n (pc' := 28) (i := 2) rfl rfl dX2_put_27 rfl ?_
    refine e_iast (n := 32) (pc' := 29) dX2_put_28 rfl rfl (Nat.le_of_ble_eq_true rfl) h (fun h => ?_)
    refine e_ltA h (fun A2 h => ?_)
    refine e_aload_n (pc' := 30) (i := 0) rfl rfl dX2_put_29 rfl ?_
    refine e_getR (a := 1) (b := 4) (k0 := 2) (pc' := 33) dX2_put_30 rfl rfl (Nat.le_of_ble_eq_true rfl) (Nat.le_of_ble_eq_true rfl) rfl mw_134 rfl ?_
    refine e_aload_n (pc' := 34) (i := 0) rfl rfl dX2_put_33 rfl ?_
    refine e_getI (a := 1) (n := 20) (k0 := 4) (pc' := 37) dX2_put_34 rfl rfl (Nat.le_of_ble_eq_true rfl) (Nat.le_of_ble_eq_true rfl) rfl mw_142 rfl ?_
    refine e_iload_n (pc' := 38) (i := 3) rfl rfl dX2_put_37 rfl ?_
    refine e_iast (n := 32) (pc' := 39) dX2_put_38 rfl rfl (Nat.le_of_ble_eq_true rfl) h (fun h => ?_)
    refine e_ltA h (fun A3 h => ?_)
    refine e_aload_n (pc' := 40) (i := 0) rfl rfl dX2_put_39 rfl ?_
    refine e_getR (a := 1) (b := 5) (k0 := 3) (pc' := 43) dX2_put_40 rfl rfl (Nat.le_of_ble_eq_true rfl) (Nat.le_of_ble_eq_true rfl) rfl mw_138 rfl ?_
    refine e_aload_n (pc' := 44) (i := 0) rfl rfl dX2_put_43 rfl ?_
    refine e_getI (a := 1) (n := 20) (k0 := 4) (pc' := 47) dX2_put_44 rfl rfl (Nat.le_of_ble_eq_true rfl) (Nat.le_of_ble_eq_true rfl) rfl mw_142 rfl ?_
    refine e_iload (pc' := 49) (i := 4) rfl dX2_put_47 rfl ?_
    refine e_iast (n := 32) (pc' := 50) dX2_put_49 rfl rfl (Nat.le_of_ble_eq_true rfl) h (fun h => ?_)
    refine e_ltA h (fun A4 h => ?_)
    refine e_aload_n (pc' := 51) (i := 0) rfl rfl dX2_put_50 rfl ?_
    refine e_dup (pc' := 52) rfl dX2_put_51 rfl ?_
    refine e_getI (a := 1) (n := 20) (k0 := 4) (pc' := 55) dX2_put_52 rfl rfl (Nat.le_of_ble_eq_true rfl) (Nat.le_of_ble_eq_true rfl) rfl mw_142 rfl ?_
    refine e_iconst (v := 1) (pc' := 56) (by decide) dX2_put_55 rfl ?_
    refine e_iadd (pc' := 57) dX2_put_56 rfl ?_
    refine e_putI (a := 1) (n := 20) (k0 := 4) (pc' := 60) dX2_put_57 rfl rfl (Nat.le_of_ble_eq_true rfl) (Nat.le_of_ble_eq_true rfl) rfl mw_142 rfl rfl g_pI rfl rfl ?_
    refine e_ltI h (fun I5 h => ?_)
    obtain ⟨rfl, rfl, rfl⟩ := g_re3 h
    exact e_vret dX2_put_60
set_option maxHeartbeats 4000000 in
set_option maxRecDepth 100000 in
theorem c59_X2_becomeBox_1  {I : Nat → Int32} {A : Nat → Nat → Int32} {L : Nat → Int64} {I' : Nat → Int32} {A' : Nat → Nat → Int32} {L' : Nat → Int64} (h : f_X2_becomeBox 1  I A L = some (I', A', L')) : GM 59 yX2_becomeBox cX2_becomeBox 1 none 1 [.ref 1] I A L (none, (I', A', L')) := by
  refine gm_of (n := 0) (lc := [some (.ref 1)]) (by decide +kernel) rfl (fun _ => Nat.le_of_ble_eq_true rfl) ?_
  change Ev 59 RX2 cX2_becomeBox 1 none 1 0 [some (.ref 1)] [] I A L _
  unfold f_X2_becomeBox at h
  refine e_aload_n (pc' := 1) (i := 0) rfl rfl dX2_becomeBox_0 rfl ?_
  refine e_iconst (v := 0) (pc' := 2) (by decide) dX2_becomeBox_1 rfl ?_
  refine e_putI (a := 1) (n := 20) (k0 := 4) (pc' := 5) dX2_becomeBox_2 rfl rfl (Nat.le_of_ble_eq_true rfl) (Nat.le_of_ble_eq_true rfl) rfl mw_142 rfl rfl g_pI rfl rfl ?_
  refine e_ltI h (fun I1 h => ?_)
  refine e_aload_n (pc' := 6) (i := 0) rfl rfl dX2_becomeBox_5 rfl ?_
  refine e_iconst (v := 1) (pc' := 7) (by decide) dX2_becomeBox_6 rfl ?_
  refine e_iconst (v := 0) (pc' := 8) (by decide) dX2_becomeBox_7 rfl ?_
  refine e_iconst (v := 0) (pc' := 9) (by decide) dX2_becomeBox_8 rfl ?_
  refine e_bipush (v := 20) (pc' := 11) (by decide) dX2_becomeBox_9 rfl ?_
  obtain ⟨I3, A4, L5, hF2, h⟩ := g_b1_e h
  refine e_callV_v (pc' := 14) dX2_becomeBox_11 rfl mw_331 mv_X2_put rfl (Nat.le_of_ble_eq_true rfl) (Nat.le_of_ble_eq_true rfl) rfl (Nat.le_of_ble_eq_true rfl) (Nat.le_of_ble_eq_true rfl) rfl (c59_X2_put_1 _ _ _ _ hF2) rfl ?_
  refine e_aload_n (pc' := 15) (i := 0) rfl rfl dX2_becomeBox_14 rfl ?_
  refine e_iconst (v := (-1)) (pc' := 16) (by decide) dX2_becomeBox_15 rfl ?_
  refine e_iconst (v := 0) (pc' := 17) (by decide) dX2_becomeBox_16 rfl ?_
  refine e_iconst (v := 0) (pc' := 18) (by decide) dX2_becomeBox_17 rfl ?_
  refine e_bipush (v := 20) (pc' := 20) (by decide) dX2_becomeBox_18 rfl ?_
  obtain ⟨I7, A8, L9, hF6, h⟩ := g_b1_e h
  refine e_callV_v (pc' := 23) dX2_becomeBox_20 rfl mw_331 mv_X2_put rfl (Nat.le_of_ble_eq_true rfl) (Nat.le_of_ble_eq_true rfl) rfl (Nat.le_of_ble_eq_true rfl) (Nat.le_of_ble_eq_true rfl) rfl (c59_X2_put_1 _ _ _ _ hF6) rfl ?_
  refine e_aload_n (pc' := 24) (i := 0) rfl rfl dX2_becomeBox_23 rfl ?_
  refine e_iconst (v := 0) (pc' := 25) (by decide) dX2_becomeBox_24 rfl ?_
  refine e_iconst (v := 1) (pc' := 26) (by decide) dX2_becomeBox_25 rfl ?_
  refine e_iconst (v := 0) (pc' := 27) (by decide) dX2_becomeBox_26 rfl ?_
  refine e_bipush (v := 20) (pc' := 29) (by decide) dX2_becomeBox_27 rfl ?_
  obtain ⟨I11, A12, L13, hF10, h⟩ := g_b1_e h
  refine e_callV_v (pc' := 32) dX2_becomeBox_29 rfl mw_331 mv_X2_put rfl (Nat.le_of_ble_eq_true rfl) (Nat.le_of_ble_eq_true rfl) rfl (Nat.le_of_ble_eq_true rfl) (Nat.le_of_ble_eq_true rfl) rfl (c59_X2_put_1 _ _ _ _ hF10) rfl ?_
  refine e_aload_n (pc' := 33) (i := 0) rfl rfl dX2_becomeBox_32 rfl ?_
  refine e_iconst (v := 0) (pc' := 34) (by decide) dX2_becomeBox_33 rfl ?_
  refine e_iconst (v := (-1)) (pc' := 35) (by decide) dX2_becomeBox_34 rfl ?_
  refine e_iconst (v := 0) (pc' := 36) (by decide) dX2_becomeBox_35 rfl ?_
  refine e_bipush (v := 20) (pc' := 38) (by decide) dX2_becomeBox_36 rfl ?_
  obtain ⟨I15, A16, L17, hF14, h⟩ := g_b1_e h
  refine e_callV_v (pc' := 41) dX2_becomeBox_38 rfl mw_331 mv_X2_put rfl (Nat.le_of_ble_eq_true rfl) (Nat.le_of_ble_eq_true rfl) rfl (Nat.le_of_ble_eq_true rfl) (Nat.le_of_ble_eq_true rfl) rfl (c59_X2_put_1 _ _ _ _ hF14) rfl ?_
  refine e_aload_n (pc' := 42) (i := 0) rfl rfl dX2_becomeBox_41 rfl ?_
  refine e_iconst (v := 0) (pc' := 43) (by decide) dX2_becomeBox_42 rfl ?_
  refine e_iconst (v := 0) (pc' := 44) (by decide) dX2_becomeBox_43 rfl ?_
  refine e_iconst (v := 1) (pc' := 45) (by decide) dX2_becomeBox_44 rfl ?_
  refine e_bipush (v := 20) (pc' := 47) (by decide) dX2_becomeBox_45 rfl ?_
  obtain ⟨I19, A20, L21, hF18, h⟩ := g_b1_e h
  refine e_callV_v (pc' := 50) dX2_becomeBox_47 rfl mw_331 mv_X2_put rfl (Nat.le_of_ble_eq_true rfl) (Nat.le_of_ble_eq_true rfl) rfl (Nat.le_of_ble_eq_true rfl) (Nat.le_of_ble_eq_true rfl) rfl (c59_X2_put_1 _ _ _ _ hF18) rfl ?_
  refine e_aload_n (pc' := 51) (i := 0) rfl rfl dX2_becomeBox_50 rfl ?_
  refine e_iconst (v := 0) (pc' := 52) (by decide) dX2_becomeBox_51 rfl ?_
  refine e_iconst (v := 0) (pc' := 53) (by decide) dX2_becomeBox_52 rfl ?_
  refine e_iconst (v := (-1)) (pc' := 54) (by decide) dX2_becomeBox_53 rfl ?_
  refine e_bipush (v := 20) (pc' := 56) (by decide) dX2_becomeBox_54 rfl ?_
  obtain ⟨I23, A24, L25, hF22, h⟩ := g_b1_e h
  refine e_callV_v (pc' := 59) dX2_becomeBox_56 rfl mw_331 mv_X2_put rfl (Nat.le_of_ble_eq_true rfl) (Nat.le_of_ble_eq_true rfl) rfl (Nat.le_of_ble_eq_true rfl) (Nat.le_of_ble_eq_true rfl) rfl (c59_X2_put_1 _ _ _ _ hF22) rfl ?_
  obtain ⟨rfl, rfl, rfl⟩ := g_re3 h
  exact e_vret dX2_becomeBox_59
set_option maxHeartbeats 4000000 in
set_option maxRecDepth 100000 in
theorem c_X6_refuseBad (a0 : Int32) {I : Nat → Int32} {A : Nat → Nat → Int32} {L : Nat → Int64} {t : Int32} {I' : Nat → Int32} {A' : Nat → Nat → Int32} {L' : Nat → Int64} (h : f_X6_refuseBad  a0 I A L = some (t, I', A', L')) : GM 70 yX6_refuseBad cX6_refuseBad 2 (some .int) 0 [.ref 0, .int a0] I A L (some (.int t), (I', A', L')) := by
  refine gm_of (n := 0) (lc := [some (.ref 0), some (.int a0)]) (by decide +kernel) rfl (fun _ => Nat.le_of_ble_eq_true rfl) ?_
  change Ev 70 RX6 cX6_refuseBad 2 (some .int) 0 0 [some (.ref 0), some (.int a0)] [] I A L _
  unfold f_X6_refuseBad at h
  refine e_aload_n (pc' := 1) (i := 0) rfl rfl dX6_refuseBad_0 rfl ?_
  refine e_dup (pc' := 2) rfl dX6_refuseBad_1 rfl ?_
  refine e_getI (a := 0) (n := 13) (k0 := 13) (pc' := 5) dX6_refuseBad_2 rfl rfl (Nat.le_of_ble_eq_true rfl) (Nat.le_of_ble_eq_true rfl) rfl mw_348 rfl ?_
  refine e_iconst (v := 1) (pc' := 6) (by decide) dX6_refuseBad_5 rfl ?_
  refine e_iadd (pc' := 7) dX6_refuseBad_6 rfl ?_
  refine e_putI (a := 0) (n := 13) (k0 := 13) (pc' := 10) dX6_refuseBad_7 rfl rfl (Nat.le_of_ble_eq_true rfl) (Nat.le_of_ble_eq_true rfl) rfl mw_348 rfl rfl g_pI rfl rfl ?_
  refine e_ltI h (fun I1 h => ?_)
  refine e_iload_n (pc' := 11) (i := 1) rfl rfl dX6_refuseBad_10 rfl ?_
  obtain ⟨rfl, rfl, rfl, rfl⟩ := g_re4 h
  exact e_iret dX6_refuseBad_11
set_option maxHeartbeats 4000000 in
set_option maxRecDepth 100000 in
theorem c_X6_isSignNumber (a0 : Int32) {I : Nat → Int32} {A : Nat → Nat → Int32} {L : Nat → Int64} {t : Int32} (h : f_X6_isSignNumber I A L a0 = some t) : GM 70 yX6_isSignNumber cX6_isSignNumber 1 (some .boolean) 0 [.int a0] I A L (some (.int t), (I, A, L)) := by
  refine gm_of (n := 0) (lc := [some (.int a0)]) (by decide +kernel) rfl (fun _ => Nat.le_of_ble_eq_true rfl) ?_
  change Ev 70 RX6 cX6_isSignNumber 1 (some .boolean) 0 0 [some (.int a0)] [] I A L _
  unfold f_X6_isSignNumber at h
  refine e_iload_n (pc' := 1) (i := 0) rfl rfl dX6_isSignNumber_0 rfl ?_
  refine e_bipush (v := (-3)) (pc' := 3) (by decide) dX6_isSignNumber_1 rfl ?_
  refine e_icmp_lt (tgt := 15) (pc' := 6) dX6_isSignNumber_3 (by decide) rfl h (fun h => ?_) (fun h => ?_)
  · refine e_iconst (v := 0) (pc' := 16) (by decide) dX6_isSignNumber_15 rfl ?_
    obtain rfl := g_re1 h
    exact e_zret dX6_isSignNumber_16 (by decide)
  · refine e_iload_n (pc' := 7) (i := 0) rfl rfl dX6_isSignNumber_6 rfl ?_
    refine e_iconst (v := 3) (pc' := 8) (by decide) dX6_isSignNumber_7 rfl ?_
    refine e_icmp_gt (tgt := 15) (pc' := 11) dX6_isSignNumber_8 (by decide) rfl h (fun h => ?_) (fun h => ?_)
    · refine e_iconst (v := 0) (pc' := 16) (by decide) dX6_isSignNumber_15 rfl ?_
      obtain rfl := g_re1 h
      exact e_zret dX6_isSignNumber_16 (by decide)
    · refine e_iconst (v := 1) (pc' := 12) (by decide) dX6_isSignNumber_11 rfl ?_
      refine e_goto (tgt := 16) dX6_isSignNumber_12 (by decide) ?_
      obtain rfl := g_re1 h
      exact e_zret dX6_isSignNumber_16 (by decide)
set_option maxHeartbeats 4000000 in
set_option maxRecDepth 100000 in
theorem c_X6_isSign (a0 : Int32) (a1 : Int32) (a2 : Int32) {I : Nat → Int32} {A : Nat → Nat → Int32} {L : Nat → Int64} {t : Int32} (h : f_X6_isSign I A L a0 a1 a2 = some t) : GM 70 yX6_isSign cX6_isSign 3 (some .boolean) 1 [.int a0, .int a1, .int a2] I A L (some (.int t), (I, A, L)) := by
  refine gm_of (n := 0) (lc := [some (.int a0), some (.int a1), some (.int a2)]) (by decide +kernel) rfl (fun _ => Nat.le_of_ble_eq_true rfl) ?_
  change Ev 70 RX6 cX6_isSign 3 (some .boolean) 1 0 [some (.int a0), some (.int a1), some (.int a2)] [] I A L _
  unfold f_X6_isSign at h
  refine e_iload_n (pc' := 1) (i := 0) rfl rfl dX6_isSign_0 rfl ?_
  obtain ⟨v2, hF1, h⟩ := g_bd_e h
  refine e_callS_i (pc' := 4) dX6_isSign_1 rfl mw_391 ms_X6_isSignNumber rfl (Nat.le_of_ble_eq_true rfl) (Nat.le_of_ble_eq_true rfl) (c_X6_isSignNumber _ hF1) rfl ?_
  refine e_if_eq (tgt := 37) (pc' := 7) dX6_isSign_4 (by decide) rfl h (fun h => ?_) (fun h => ?_)
  · refine e_iconst (v := 0) (pc' := 38) (by decide) dX6_isSign_37 rfl ?_
    obtain rfl := g_re1 h
    exact e_zret dX6_isSign_38 (by decide)
  · refine e_iload_n (pc' := 8) (i := 1) rfl rfl dX6_isSign_7 rfl ?_
    obtain ⟨v4, hF3, h⟩ := g_bd_e h
    refine e_callS_i (pc' := 11) dX6_isSign_8 rfl mw_391 ms_X6_isSignNumber rfl (Nat.le_of_ble_eq_true rfl) (Nat.le_of_ble_eq_true rfl) (c_X6_isSignNumber _ hF3) rfl ?_
    refine e_if_eq (tgt := 37) (pc' := 14) dX6_isSign_11 (by decide) rfl h (fun h => ?_) (fun h => ?_)
    · refine e_iconst (v := 0) (pc' := 38) (by decide) dX6_isSign_37 rfl ?_
      obtain rfl := g_re1 h
      exact e_zret dX6_isSign_38 (by decide)
    · refine e_iload_n (pc' := 15) (i := 2) rfl rfl dX6_isSign_14 rfl ?_
      obtain ⟨v6, hF5, h⟩ := g_bd_e h
      refine e_callS_i (pc' := 18) dX6_isSign_15 rfl mw_391 ms_X6_isSignNumber rfl (Nat.le_of_ble_eq_true rfl) (Nat.le_of_ble_eq_true rfl) (c_X6_isSignNumber _ hF5) rfl ?_
      refine e_if_eq (tgt := 37) (pc' := 21) dX6_isSign_18 (by decide) rfl h (fun h => ?_) (fun h => ?_)
      · refine e_iconst (v := 0) (pc' := 38) (by decide) dX6_isSign_37 rfl ?_
        obtain rfl := g_re1 h
        exact e_zret dX6_isSign_38 (by decide)
      · refine e_iload_n (pc' := 22) (i := 0) rfl rfl dX6_isSign_21 rfl ?_
        refine e_if_ne (tgt := 33) (pc' := 25) dX6_isSign_22 (by decide) rfl h (fun h => ?_) (fun h => ?_)
        · refine e_iconst (v := 1) (pc' := 34) (by decide) dX6_isSign_33 rfl ?_
          refine e_goto (tgt := 38) dX6_isSign_34 (by decide) ?_
          obtain rfl := g_re1 h
          exact e_zret dX6_isSign_38 (by decide)
        · refine e_iload_n (pc' := 26) (i := 1) rfl rfl dX6_isSign_25 rfl ?_
          refine e_if_ne (tgt := 33) (pc' := 29) dX6_isSign_26 (by decide) rfl h (fun h => ?_) (fun h => ?_)
          · refine e_iconst (v := 1) (pc' := 34) (by decide) dX6_isSign_33 rfl ?_
            refine e_goto (tgt := 38) dX6_isSign_34 (by decide) ?_
            obtain rfl := g_re1 h
            exact e_zret dX6_isSign_38 (by decide)
          · refine e_iload_n (pc' := 30) (i := 2) rfl rfl dX6_isSign_29 rfl ?_
            refine e_if_eq (tgt := 37) (pc' := 33) dX6_isSign_30 (by decide) rfl h (fun h => ?_) (fun h => ?_)
            · refine e_iconst (v := 0) (pc' := 38) (by decide) dX6_isSign_37 rfl ?_
              obtain rfl := g_re1 h
              exact e_zret dX6_isSign_38 (by decide)
            · refine e_iconst (v := 1) (pc' := 34) (by decide) dX6_isSign_33 rfl ?_
              refine e_goto (tgt := 38) dX6_isSign_34 (by decide) ?_
              obtain rfl := g_re1 h
              exact e_zret dX6_isSign_38 (by decide)
set_option maxHeartbeats 4000000 in
set_option maxRecDepth 100000 in
theorem c_X6_isOff (a0 : Int32) {I : Nat → Int32} {A : Nat → Nat → Int32} {L : Nat → Int64} {t : Int32} (h : f_X6_isOff I A L a0 = some t) : GM 70 yX6_isOff cX6_isOff 1 (some .boolean) 0 [.int a0] I A L (some (.int t), (I, A, L)) := by
  refine gm_of (n := 0) (lc := [some (.int a0)]) (by decide +kernel) rfl (fun _ => Nat.le_of_ble_eq_true rfl) ?_
  change Ev 70 RX6 cX6_isOff 1 (some .boolean) 0 0 [some (.int a0)] [] I A L _
  unfold f_X6_isOff at h
  refine e_iload_n (pc' := 1) (i := 0) rfl rfl dX6_isOff_0 rfl ?_
  refine e_iconst (v := 1) (pc' := 2) (by decide) dX6_isOff_1 rfl ?_
  refine e_icmp_lt (tgt := 15) (pc' := 5) dX6_isOff_2 (by decide) rfl h (fun h => ?_) (fun h => ?_)
  · refine e_iconst (v := 0) (pc' := 16) (by decide) dX6_isOff_15 rfl ?_
    obtain rfl := g_re1 h
    exact e_zret dX6_isOff_16 (by decide)
  · refine e_iload_n (pc' := 6) (i := 0) rfl rfl dX6_isOff_5 rfl ?_
    refine e_bipush (v := 60) (pc' := 8) (by decide) dX6_isOff_6 rfl ?_
    refine e_icmp_gt (tgt := 15) (pc' := 11) dX6_isOff_8 (by decide) rfl h (fun h => ?_) (fun h => ?_)
    · refine e_iconst (v := 0) (pc' := 16) (by decide) dX6_isOff_15 rfl ?_
      obtain rfl := g_re1 h
      exact e_zret dX6_isOff_16 (by decide)
    · refine e_iconst (v := 1) (pc' := 12) (by decide) dX6_isOff_11 rfl ?_
      refine e_goto (tgt := 16) dX6_isOff_12 (by decide) ?_
      obtain rfl := g_re1 h
      exact e_zret dX6_isOff_16 (by decide)
set_option maxHeartbeats 4000000 in
set_option maxRecDepth 100000 in
theorem c_X2_copyFrom_13_1  {I : Nat → Int32} {A : Nat → Nat → Int32} {L : Nat → Int64} {I' : Nat → Int32} {A' : Nat → Nat → Int32} {L' : Nat → Int64} (h : f_X2_copyFrom 13 1  I A L = some (I', A', L')) : GM 70 yX2_copyFrom cX2_copyFrom 2 none 1 [.ref 13, .ref 1] I A L (none, (I', A', L')) := by
  refine gm_of (n := 0) (lc := [some (.ref 13), some (.ref 1)]) (by decide +kernel) rfl (fun _ => Nat.le_of_ble_eq_true rfl) ?_
  change Ev 70 RX2 cX2_copyFrom 2 none 1 0 [some (.ref 13), some (.ref 1)] [] I A L _
  unfold f_X2_copyFrom at h
  refine e_aload_n (pc' := 1) (i := 1) rfl rfl dX2_copyFrom_0 rfl ?_
  refine e_ifnonnull (tgt := 5) dX2_copyFrom_1 (by decide) ?_
  refine e_aload_n (pc' := 6) (i := 0) rfl rfl dX2_copyFrom_5 rfl ?_
  refine e_aload_n (pc' := 7) (i := 1) rfl rfl dX2_copyFrom_6 rfl ?_
  refine e_getI (a := 1) (n := 20) (k0 := 4) (pc' := 10) dX2_copyFrom_7 rfl rfl (Nat.le_of_ble_eq_true rfl) (Nat.le_of_ble_eq_true rfl) rfl mw_142 rfl ?_
  refine e_putI (a := 13) (n := 212) (k0 := 4) (pc' := 13) dX2_copyFrom_10 rfl rfl (Nat.le_of_ble_eq_true rfl) (Nat.le_of_ble_eq_true rfl) rfl mw_142 rfl rfl g_pI rfl rfl ?_
  refine e_ltI h (fun I1 h => ?_)
  refine e_aload_n (pc' := 14) (i := 1) rfl rfl dX2_copyFrom_13 rfl ?_
  refine e_getR (a := 1) (b := 2) (k0 := 0) (pc' := 17) dX2_copyFrom_14 rfl rfl (Nat.le_of_ble_eq_true rfl) (Nat.le_of_ble_eq_true rfl) rfl mw_126 rfl ?_
  refine e_iconst (v := 0) (pc' := 18) (by decide) dX2_copyFrom_17 rfl ?_
  refine e_aload_n (pc' := 19) (i := 0) rfl rfl dX2_copyFrom_18 rfl ?_
  refine e_getR (a := 13) (b := 14) (k0 := 0) (pc' := 22) dX2_copyFrom_19 rfl rfl (Nat.le_of_ble_eq_true rfl) (Nat.le_of_ble_eq_true rfl) rfl mw_126 rfl ?_
  refine e_iconst (v := 0) (pc' := 23) (by decide) dX2_copyFrom_22 rfl ?_
  refine e_aload_n (pc' := 24) (i := 0) rfl rfl dX2_copyFrom_23 rfl ?_
  refine e_getI (a := 13) (n := 212) (k0 := 4) (pc' := 27) dX2_copyFrom_24 rfl rfl (Nat.le_of_ble_eq_true rfl) (Nat.le_of_ble_eq_true rfl) rfl mw_142 rfl ?_
  refine e_copy (pc' := 30) (n0 := 32) (n1 := 32) dX2_copyFrom_27 rfl mw_417 mw_419 mw_418 mw_108 (Nat.le_of_ble_eq_true rfl) (Nat.le_of_ble_eq_true rfl) rfl (Nat.le_of_ble_eq_true rfl) rfl (Nat.le_of_ble_eq_true rfl) h (fun h => ?_)
  refine e_ltA h (fun A2 h => ?_)
  refine e_aload_n (pc' := 31) (i := 1) rfl rfl dX2_copyFrom_30 rfl ?_
  refine e_getR (a := 1) (b := 3) (k0 := 1) (pc' := 34) dX2_copyFrom_31 rfl rfl (Nat.le_of_ble_eq_true rfl) (Nat.le_of_ble_eq_true rfl) rfl mw_130 rfl ?_
  refine e_iconst (v := 0) (pc' := 35) (by decide) dX2_copyFrom_34 rfl ?_
  refine e_aload_n (pc' := 36) (i := 0) rfl rfl dX2_copyFrom_35 rfl ?_
  refine e_getR (a := 13) (b := 15) (k0 := 1) (pc' := 39) dX2_copyFrom_36 rfl rfl (Nat.le_of_ble_eq_true rfl) (Nat.le_of_ble_eq_true rfl) rfl mw_130 rfl ?_
  refine e_iconst (v := 0) (pc' := 40) (by decide) dX2_copyFrom_39 rfl ?_
  refine e_aload_n (pc' := 41) (i := 0) rfl rfl dX2_copyFrom_40 rfl ?_
  refine e_getI (a := 13) (n := 212) (k0 := 4) (pc' := 44) dX2_copyFrom_41 rfl rfl (Nat.le_of_ble_eq_true rfl) (Nat.le_of_ble_eq_true rfl) rfl mw_142 rfl ?_
  refine e_copy (pc' := 47) (n0 := 32) (n1 := 32) dX2_copyFrom_44 rfl mw_417 mw_419 mw_418 mw_108 (Nat.le_of_ble_eq_true rfl) (Nat.le_of_ble_eq_true rfl) rfl (Nat.le_of_ble_eq_true rfl) rfl (Nat.le_of_ble_eq_true rfl) h (fun h => ?_)
  refine e_ltA h (fun A3 h => ?_)
  refine e_aload_n (pc' := 48) (i := 1) rfl rfl dX2_copyFrom_47 rfl ?_
  refine e_getR (a := 1) (b := 4) (k0 := 2) (pc' := 51) dX2_copyFrom_48 rfl rfl (Nat.le_of_ble_eq_true rfl) (Nat.le_of_ble_eq_true rfl) rfl mw_134 rfl ?_
  refine e_iconst (v := 0) (pc' := 52) (by decide) dX2_copyFrom_51 rfl ?_
  refine e_aload_n (pc' := 53) (i := 0) rfl rfl dX2_copyFrom_52 rfl ?_
  refine e_getR (a := 13) (b := 16) (k0 := 2) (pc' := 56) dX2_copyFrom_53 rfl rfl (Nat.le_of_ble_eq_true rfl) (Nat.le_of_ble_eq_true rfl) rfl mw_134 rfl ?_
  refine e_iconst (v := 0) (pc' := 57) (by decide) dX2_copyFrom_56 rfl ?_
  refine e_aload_n (pc' := 58) (i := 0) rfl rfl dX2_copyFrom_57 rfl ?_
  refine e_getI (a := 13) (n := 212) (k0 := 4) (pc' := 61) dX2_copyFrom_58 rfl rfl (Nat.le_of_ble_eq_true rfl) (Nat.le_of_ble_eq_true rfl) rfl mw_142 rfl ?_
  refine e_copy (pc' := 64) (n0 := 32) (n1 := 32) dX2_copyFrom_61 rfl mw_417 mw_419 mw_418 mw_108 (Nat.le_of_ble_eq_true rfl) (Nat.le_of_ble_eq_true rfl) rfl (Nat.le_of_ble_eq_true rfl) rfl (Nat.le_of_ble_eq_true rfl) h (fun h => ?_)
  refine e_ltA h (fun A4 h => ?_)
  refine e_aload_n (pc' := 65) (i := 1) rfl rfl dX2_copyFrom_64 rfl ?_
  refine e_getR (a := 1) (b := 5) (k0 := 3) (pc' := 68) dX2_copyFrom_65 rfl rfl (Nat.le_of_ble_eq_true rfl) (Nat.le_of_ble_eq_true rfl) rfl mw_138 rfl ?_
  refine e_iconst (v := 0) (pc' := 69) (by decide) dX2_copyFrom_68 rfl ?_
  refine e_aload_n (pc' := 70) (i := 0) rfl rfl dX2_copyFrom_69 rfl ?_
  refine e_getR (a := 13) (b := 17) (k0 := 3) (pc' := 73) dX2_copyFrom_70 rfl rfl (Nat.le_of_ble_eq_true rfl) (Nat.le_of_ble_eq_true rfl) rfl mw_138 rfl ?_
  refine e_iconst (v := 0) (pc' := 74) (by decide) dX2_copyFrom_73 rfl ?_
  refine e_aload_n (pc' := 75) (i := 0) rfl rfl dX2_copyFrom_74 rfl ?_
  refine e_getI (a := 13) (n := 212) (k0 := 4) (pc' := 78) dX2_copyFrom_75 rfl rfl (Nat.le_of_ble_eq_true rfl) (Nat.le_of_ble_eq_true rfl) rfl mw_142 rfl ?_
  refine e_copy (pc' := 81) (n0 := 32) (n1 := 32) dX2_copyFrom_78 rfl mw_417 mw_419 mw_418 mw_108 (Nat.le_of_ble_eq_true rfl) (Nat.le_of_ble_eq_true rfl) rfl (Nat.le_of_ble_eq_true rfl) rfl (Nat.le_of_ble_eq_true rfl) h (fun h => ?_)
  refine e_ltA h (fun A5 h => ?_)
  obtain ⟨rfl, rfl, rfl⟩ := g_re3 h
  exact e_vret dX2_copyFrom_81
set_option maxHeartbeats 4000000 in
set_option maxRecDepth 100000 in
theorem c_X2_copyFrom_18_1  {I : Nat → Int32} {A : Nat → Nat → Int32} {L : Nat → Int64} {I' : Nat → Int32} {A' : Nat → Nat → Int32} {L' : Nat → Int64} (h : f_X2_copyFrom 18 1  I A L = some (I', A', L')) : GM 70 yX2_copyFrom cX2_copyFrom 2 none 1 [.ref 18, .ref 1] I A L (none, (I', A', L')) := by
  refine gm_of (n := 0) (lc := [some (.ref 18), some (.ref 1)]) (by decide +kernel) rfl (fun _ => Nat.le_of_ble_eq_true rfl) ?_
  change Ev 70 RX2 cX2_copyFrom 2 none 1 0 [some (.ref 18), some (.ref 1)] [] I A L _
  unfold f_X2_copyFrom at h
  refine e_aload_n (pc' := 1) (i := 1) rfl rfl dX2_copyFrom_0 rfl ?_
  refine e_ifnonnull (tgt := 5) dX2_copyFrom_1 (by decide) ?_
  refine e_aload_n (pc' := 6) (i := 0) rfl rfl dX2_copyFrom_5 rfl ?_
  refine e_aload_n (pc' := 7) (i := 1) rfl rfl dX2_copyFrom_6 rfl ?_
  refine e_getI (a := 1) (n := 20) (k0 := 4) (pc' := 10) dX2_copyFrom_7 rfl rfl (Nat.le_of_ble_eq_true rfl) (Nat.le_of_ble_eq_true rfl) rfl mw_142 rfl ?_
  refine e_putI (a := 18) (n := 292) (k0 := 4) (pc' := 13) dX2_copyFrom_10 rfl rfl (Nat.le_of_ble_eq_true rfl) (Nat.le_of_ble_eq_true rfl) rfl mw_142 rfl rfl g_pI rfl rfl ?_
  refine e_ltI h (fun I1 h => ?_)
  refine e_aload_n (pc' := 14) (i := 1) rfl rfl dX2_copyFrom_13 rfl ?_
  refine e_getR (a := 1) (b := 2) (k0 := 0) (pc' := 17) dX2_copyFrom_14 rfl rfl (Nat.le_of_ble_eq_true rfl) (Nat.le_of_ble_eq_true rfl) rfl mw_126 rfl ?_
  refine e_iconst (v := 0) (pc' := 18) (by decide) dX2_copyFrom_17 rfl ?_
  refine e_aload_n (pc' := 19) (i := 0) rfl rfl dX2_copyFrom_18 rfl ?_
  refine e_getR (a := 18) (b := 19) (k0 := 0) (pc' := 22) dX2_copyFrom_19 rfl rfl (Nat.le_of_ble_eq_true rfl) (Nat.le_of_ble_eq_true rfl) rfl mw_126 rfl ?_
  refine e_iconst (v := 0) (pc' := 23) (by decide) dX2_copyFrom_22 rfl ?_
  refine e_aload_n (pc' := 24) (i := 0) rfl rfl dX2_copyFrom_23 rfl ?_
  refine e_getI (a := 18) (n := 292) (k0 := 4) (pc' := 27) dX2_copyFrom_24 rfl rfl (Nat.le_of_ble_eq_true rfl) (Nat.le_of_ble_eq_true rfl) rfl mw_142 rfl ?_
  refine e_copy (pc' := 30) (n0 := 32) (n1 := 32) dX2_copyFrom_27 rfl mw_417 mw_419 mw_418 mw_108 (Nat.le_of_ble_eq_true rfl) (Nat.le_of_ble_eq_true rfl) rfl (Nat.le_of_ble_eq_true rfl) rfl (Nat.le_of_ble_eq_true rfl) h (fun h => ?_)
  refine e_ltA h (fun A2 h => ?_)
  refine e_aload_n (pc' := 31) (i := 1) rfl rfl dX2_copyFrom_30 rfl ?_
  refine e_getR (a := 1) (b := 3) (k0 := 1) (pc' := 34) dX2_copyFrom_31 rfl rfl (Nat.le_of_ble_eq_true rfl) (Nat.le_of_ble_eq_true rfl) rfl mw_130 rfl ?_
  refine e_iconst (v := 0) (pc' := 35) (by decide) dX2_copyFrom_34 rfl ?_
  refine e_aload_n (pc' := 36) (i := 0) rfl rfl dX2_copyFrom_35 rfl ?_
  refine e_getR (a := 18) (b := 20) (k0 := 1) (pc' := 39) dX2_copyFrom_36 rfl rfl (Nat.le_of_ble_eq_true rfl) (Nat.le_of_ble_eq_true rfl) rfl mw_130 rfl ?_
  refine e_iconst (v := 0) (pc' := 40) (by decide) dX2_copyFrom_39 rfl ?_
  refine e_aload_n (pc' := 41) (i := 0) rfl rfl dX2_copyFrom_40 rfl ?_
  refine e_getI (a := 18) (n := 292) (k0 := 4) (pc' := 44) dX2_copyFrom_41 rfl rfl (Nat.le_of_ble_eq_true rfl) (Nat.le_of_ble_eq_true rfl) rfl mw_142 rfl ?_
  refine e_copy (pc' := 47) (n0 := 32) (n1 := 32) dX2_copyFrom_44 rfl mw_417 mw_419 mw_418 mw_108 (Nat.le_of_ble_eq_true rfl) (Nat.le_of_ble_eq_true rfl) rfl (Nat.le_of_ble_eq_true rfl) rfl (Nat.le_of_ble_eq_true rfl) h (fun h => ?_)
  refine e_ltA h (fun A3 h => ?_)
  refine e_aload_n (pc' := 48) (i := 1) rfl rfl dX2_copyFrom_47 rfl ?_
  refine e_getR (a := 1) (b := 4) (k0 := 2) (pc' := 51) dX2_copyFrom_48 rfl rfl (Nat.le_of_ble_eq_true rfl) (Nat.le_of_ble_eq_true rfl) rfl mw_134 rfl ?_
  refine e_iconst (v := 0) (pc' := 52) (by decide) dX2_copyFrom_51 rfl ?_
  refine e_aload_n (pc' := 53) (i := 0) rfl rfl dX2_copyFrom_52 rfl ?_
  refine e_getR (a := 18) (b := 21) (k0 := 2) (pc' := 56) dX2_copyFrom_53 rfl rfl (Nat.le_of_ble_eq_true rfl) (Nat.le_of_ble_eq_true rfl) rfl mw_134 rfl ?_
  refine e_iconst (v := 0) (pc' := 57) (by decide) dX2_copyFrom_56 rfl ?_
  refine e_aload_n (pc' := 58) (i := 0) rfl rfl dX2_copyFrom_57 rfl ?_
  refine e_getI (a := 18) (n := 292) (k0 := 4) (pc' := 61) dX2_copyFrom_58 rfl rfl (Nat.le_of_ble_eq_true rfl) (Nat.le_of_ble_eq_true rfl) rfl mw_142 rfl ?_
  refine e_copy (pc' := 64) (n0 := 32) (n1 := 32) dX2_copyFrom_61 rfl mw_417 mw_419 mw_418 mw_108 (Nat.le_of_ble_eq_true rfl) (Nat.le_of_ble_eq_true rfl) rfl (Nat.le_of_ble_eq_true rfl) rfl (Nat.le_of_ble_eq_true rfl) h (fun h => ?_)
  refine e_ltA h (fun A4 h => ?_)
  refine e_aload_n (pc' := 65) (i := 1) rfl rfl dX2_copyFrom_64 rfl ?_
  refine e_getR (a := 1) (b := 5) (k0 := 3) (pc' := 68) dX2_copyFrom_65 rfl rfl (Nat.le_of_ble_eq_true rfl) (Nat.le_of_ble_eq_true rfl) rfl mw_138 rfl ?_
  refine e_iconst (v := 0) (pc' := 69) (by decide) dX2_copyFrom_68 rfl ?_
  refine e_aload_n (pc' := 70) (i := 0) rfl rfl dX2_copyFrom_69 rfl ?_
  refine e_getR (a := 18) (b := 22) (k0 := 3) (pc' := 73) dX2_copyFrom_70 rfl rfl (Nat.le_of_ble_eq_true rfl) (Nat.le_of_ble_eq_true rfl) rfl mw_138 rfl ?_
  refine e_iconst (v := 0) (pc' := 74) (by decide) dX2_copyFrom_73 rfl ?_
  refine e_aload_n (pc' := 75) (i := 0) rfl rfl dX2_copyFrom_74 rfl ?_
  refine e_getI (a := 18) (n := 292) (k0 := 4) (pc' := 78) dX2_copyFrom_75 rfl rfl (Nat.le_of_ble_eq_true rfl) (Nat.le_of_ble_eq_true rfl) rfl mw_142 rfl ?_
  refine e_copy (pc' := 81) (n0 := 32) (n1 := 32) dX2_copyFrom_78 rfl mw_417 mw_419 mw_418 mw_108 (Nat.le_of_ble_eq_true rfl) (Nat.le_of_ble_eq_true rfl) rfl (Nat.le_of_ble_eq_true rfl) rfl (Nat.le_of_ble_eq_true rfl) h (fun h => ?_)
  refine e_ltA h (fun A5 h => ?_)
  obtain ⟨rfl, rfl, rfl⟩ := g_re3 h
  exact e_vret dX2_copyFrom_81
set_option maxHeartbeats 4000000 in
set_option maxRecDepth 100000 in
theorem c_X2_copyFrom_23_1  {I : Nat → Int32} {A : Nat → Nat → Int32} {L : Nat → Int64} {I' : Nat → Int32} {A' : Nat → Nat → Int32} {L' : Nat → Int64} (h : f_X2_copyFrom 23 1  I A L = some (I', A', L')) : GM 70 yX2_copyFrom cX2_copyFrom 2 none 1 [.ref 23, .ref 1] I A L (none, (I', A', L')) := by
  refine gm_of (n := 0) (lc := [some (.ref 23), some (.ref 1)]) (by decide +kernel) rfl (fun _ => Nat.le_of_ble_eq_true rfl) ?_
  change Ev 70 RX2 cX2_copyFrom 2 none 1 0 [some (.ref 23), some (.ref 1)] [] I A L _
  unfold f_X2_copyFrom at h
  refine e_aload_n (pc' := 1) (i := 1) rfl rfl dX2_copyFrom_0 rfl ?_
  refine e_ifnonnull (tgt := 5) dX2_copyFrom_1 (by decide) ?_
  refine e_aload_n (pc' := 6) (i := 0) rfl rfl dX2_copyFrom_5 rfl ?_
  refine e_aload_n (pc' := 7) (i := 1) rfl rfl dX2_copyFrom_6 rfl ?_
  refine e_getI (a := 1) (n := 20) (k0 := 4) (pc' := 10) dX2_copyFrom_7 rfl rfl (Nat.le_of_ble_eq_true rfl) (Nat.le_of_ble_eq_true rfl) rfl mw_142 rfl ?_
  refine e_putI (a := 23) (n := 372) (k0 := 4) (pc' := 13) dX2_copyFrom_10 rfl rfl (Nat.le_of_ble_eq_true rfl) (Nat.le_of_ble_eq_true rfl) rfl mw_142 rfl rfl g_pI rfl rfl ?_
  refine e_ltI h (fun I1 h => ?_)
  refine e_aload_n (pc' := 14) (i := 1) rfl rfl dX2_copyFrom_13 rfl ?_
  refine e_getR (a := 1) (b := 2) (k0 := 0) (pc' := 17) dX2_copyFrom_14 rfl rfl (Nat.le_of_ble_eq_true rfl) (Nat.le_of_ble_eq_true rfl) rfl mw_126 rfl ?_
  refine e_iconst (v := 0) (pc' := 18) (by decide) dX2_copyFrom_17 rfl ?_
  refine e_aload_n (pc' := 19) (i := 0) rfl rfl dX2_copyFrom_18 rfl ?_
  refine e_getR (a := 23) (b := 24) (k0 := 0) (pc' := 22) dX2_copyFrom_19 rfl rfl (Nat.le_of_ble_eq_true rfl) (Nat.le_of_ble_eq_true rfl) rfl mw_126 rfl ?_
  refine e_iconst (v := 0) (pc' := 23) (by decide) dX2_copyFrom_22 rfl ?_
  refine e_aload_n (pc' := 24) (i := 0) rfl rfl dX2_copyFrom_23 rfl ?_
  refine e_getI (a := 23) (n := 372) (k0 := 4) (pc' := 27) dX2_copyFrom_24 rfl rfl (Nat.le_of_ble_eq_true rfl) (Nat.le_of_ble_eq_true rfl) rfl mw_142 rfl ?_
  refine e_copy (pc' := 30) (n0 := 32) (n1 := 32) dX2_copyFrom_27 rfl mw_417 mw_419 mw_418 mw_108 (Nat.le_of_ble_eq_true rfl) (Nat.le_of_ble_eq_true rfl) rfl (Nat.le_of_ble_eq_true rfl) rfl (Nat.le_of_ble_eq_true rfl) h (fun h => ?_)
  refine e_ltA h (fun A2 h => ?_)
  refine e_aload_n (pc' := 31) (i := 1) rfl rfl dX2_copyFrom_30 rfl ?_
  refine e_getR (a := 1) (b := 3) (k0 := 1) (pc' := 34) dX2_copyFrom_31 rfl rfl (Nat.le_of_ble_eq_true rfl) (Nat.le_of_ble_eq_true rfl) rfl mw_130 rfl ?_
  refine e_iconst (v := 0) (pc' := 35) (by decide) dX2_copyFrom_34 rfl ?_
  refine e_aload_n (pc' := 36) (i := 0) rfl rfl dX2_copyFrom_35 rfl ?_
  refine e_getR (a := 23) (b := 25) (k0 := 1) (pc' := 39) dX2_copyFrom_36 rfl rfl (Nat.le_of_ble_eq_true rfl) (Nat.le_of_ble_eq_true rfl) rfl mw_130 rfl ?_
  refine e_iconst (v := 0) (pc' := 40) (by decide) dX2_copyFrom_39 rfl ?_
  refine e_aload_n (pc' := 41) (i := 0) rfl rfl dX2_copyFrom_40 rfl ?_
  refine e_getI (a := 23) (n := 372) (k0 := 4) (pc' := 44) dX2_copyFrom_41 rfl rfl (Nat.le_of_ble_eq_true rfl) (Nat.le_of_ble_eq_true rfl) rfl mw_142 rfl ?_
  refine e_copy (pc' := 47) (n0 := 32) (n1 := 32) dX2_copyFrom_44 rfl mw_417 mw_419 mw_418 mw_108 (Nat.le_of_ble_eq_true rfl) (Nat.le_of_ble_eq_true rfl) rfl (Nat.le_of_ble_eq_true rfl) rfl (Nat.le_of_ble_eq_true rfl) h (fun h => ?_)
  refine e_ltA h (fun A3 h => ?_)
  refine e_aload_n (pc' := 48) (i := 1) rfl rfl dX2_copyFrom_47 rfl ?_
  refine e_getR (a := 1) (b := 4) (k0 := 2) (pc' := 51) dX2_copyFrom_48 rfl rfl (Nat.le_of_ble_eq_true rfl) (Nat.le_of_ble_eq_true rfl) rfl mw_134 rfl ?_
  refine e_iconst (v := 0) (pc' := 52) (by decide) dX2_copyFrom_51 rfl ?_
  refine e_aload_n (pc' := 53) (i := 0) rfl rfl dX2_copyFrom_52 rfl ?_
  refine e_getR (a := 23) (b := 26) (k0 := 2) (pc' := 56) dX2_copyFrom_53 rfl rfl (Nat.le_of_ble_eq_true rfl) (Nat.le_of_ble_eq_true rfl) rfl mw_134 rfl ?_
  refine e_iconst (v := 0) (pc' := 57) (by decide) dX2_copyFrom_56 rfl ?_
  refine e_aload_n (pc' := 58) (i := 0) rfl rfl dX2_copyFrom_57 rfl ?_
  refine e_getI (a := 23) (n := 372) (k0 := 4) (pc' := 61) dX2_copyFrom_58 rfl rfl (Nat.le_of_ble_eq_true rfl) (Nat.le_of_ble_eq_true rfl) rfl mw_142 rfl ?_
  refine e_copy (pc' := 64) (n0 := 32) (n1 := 32) dX2_copyFrom_61 rfl mw_417 mw_419 mw_418 mw_108 (Nat.le_of_ble_eq_true rfl) (Nat.le_of_ble_eq_true rfl) rfl (Nat.le_of_ble_eq_true rfl) rfl (Nat.le_of_ble_eq_true rfl) h (fun h => ?_)
  refine e_ltA h (fun A4 h => ?_)
  refine e_aload_n (pc' := 65) (i := 1) rfl rfl dX2_copyFrom_64 rfl ?_
  refine e_getR (a := 1) (b := 5) (k0 := 3) (pc' := 68) dX2_copyFrom_65 rfl rfl (Nat.le_of_ble_eq_true rfl) (Nat.le_of_ble_eq_true rfl) rfl mw_138 rfl ?_
  refine e_iconst (v := 0) (pc' := 69) (by decide) dX2_copyFrom_68 rfl ?_
  refine e_aload_n (pc' := 70) (i := 0) rfl rfl dX2_copyFrom_69 rfl ?_
  refine e_getR (a := 23) (b := 27) (k0 := 3) (pc' := 73) dX2_copyFrom_70 rfl rfl (Nat.le_of_ble_eq_true rfl) (Nat.le_of_ble_eq_true rfl) rfl mw_138 rfl ?_
  refine e_iconst (v := 0) (pc' := 74) (by decide) dX2_copyFrom_73 rfl ?_
  refine e_aload_n (pc' := 75) (i := 0) rfl rfl dX2_copyFrom_74 rfl ?_
  refine e_getI (a := 23) (n := 372) (k0 := 4) (pc' := 78) dX2_copyFrom_75 rfl rfl (Nat.le_of_ble_eq_true rfl) (Nat.le_of_ble_eq_true rfl) rfl mw_142 rfl ?_
  refine e_copy (pc' := 81) (n0 := 32) (n1 := 32) dX2_copyFrom_78 rfl mw_417 mw_419 mw_418 mw_108 (Nat.le_of_ble_eq_true rfl) (Nat.le_of_ble_eq_true rfl) rfl (Nat.le_of_ble_eq_true rfl) rfl (Nat.le_of_ble_eq_true rfl) h (fun h => ?_)
  refine e_ltA h (fun A5 h => ?_)
  obtain ⟨rfl, rfl, rfl⟩ := g_re3 h
  exact e_vret dX2_copyFrom_81
set_option maxHeartbeats 4000000 in
set_option maxRecDepth 100000 in
theorem c_X2_copyFrom_28_1  {I : Nat → Int32} {A : Nat → Nat → Int32} {L : Nat → Int64} {I' : Nat → Int32} {A' : Nat → Nat → Int32} {L' : Nat → Int64} (h : f_X2_copyFrom 28 1  I A L = some (I', A', L')) : GM 70 yX2_copyFrom cX2_copyFrom 2 none 1 [.ref 28, .ref 1] I A L (none, (I', A', L')) := by
  refine gm_of (n := 0) (lc := [some (.ref 28), some (.ref 1)]) (by decide +kernel) rfl (fun _ => Nat.le_of_ble_eq_true rfl) ?_
  change Ev 70 RX2 cX2_copyFrom 2 none 1 0 [some (.ref 28), some (.ref 1)] [] I A L _
  unfold f_X2_copyFrom at h
  refine e_aload_n (pc' := 1) (i := 1) rfl rfl dX2_copyFrom_0 rfl ?_
  refine e_ifnonnull (tgt := 5) dX2_copyFrom_1 (by decide) ?_
  refine e_aload_n (pc' := 6) (i := 0) rfl rfl dX2_copyFrom_5 rfl ?_
  refine e_aload_n (pc' := 7) (i := 1) rfl rfl dX2_copyFrom_6 rfl ?_
  refine e_getI (a := 1) (n := 20) (k0 := 4) (pc' := 10) dX2_copyFrom_7 rfl rfl (Nat.le_of_ble_eq_true rfl) (Nat.le_of_ble_eq_true rfl) rfl mw_142 rfl ?_
  refine e_putI (a := 28) (n := 452) (k0 := 4) (pc' := 13) dX2_copyFrom_10 rfl rfl (Nat.le_of_ble_eq_true rfl) (Nat.le_of_ble_eq_true rfl) rfl mw_142 rfl rfl g_pI rfl rfl ?_
  refine e_ltI h (fun I1 h => ?_)
  refine e_aload_n (pc' := 14) (i := 1) rfl rfl dX2_copyFrom_13 rfl ?_
  refine e_getR (a := 1) (b := 2) (k0 := 0) (pc' := 17) dX2_copyFrom_14 rfl rfl (Nat.le_of_ble_eq_true rfl) (Nat.le_of_ble_eq_true rfl) rfl mw_126 rfl ?_
  refine e_iconst (v := 0) (pc' := 18) (by decide) dX2_copyFrom_17 rfl ?_
  refine e_aload_n (pc' := 19) (i := 0) rfl rfl dX2_copyFrom_18 rfl ?_
  refine e_getR (a := 28) (b := 29) (k0 := 0) (pc' := 22) dX2_copyFrom_19 rfl rfl (Nat.le_of_ble_eq_true rfl) (Nat.le_of_ble_eq_true rfl) rfl mw_126 rfl ?_
  refine e_iconst (v := 0) (pc' := 23) (by decide) dX2_copyFrom_22 rfl ?_
  refine e_aload_n (pc' := 24) (i := 0) rfl rfl dX2_copyFrom_23 rfl ?_
  refine e_getI (a := 28) (n := 452) (k0 := 4) (pc' := 27) dX2_copyFrom_24 rfl rfl (Nat.le_of_ble_eq_true rfl) (Nat.le_of_ble_eq_true rfl) rfl mw_142 rfl ?_
  refine e_copy (pc' := 30) (n0 := 32) (n1 := 32) dX2_copyFrom_27 rfl mw_417 mw_419 mw_418 mw_108 (Nat.le_of_ble_eq_true rfl) (Nat.le_of_ble_eq_true rfl) rfl (Nat.le_of_ble_eq_true rfl) rfl (Nat.le_of_ble_eq_true rfl) h (fun h => ?_)
  refine e_ltA h (fun A2 h => ?_)
  refine e_aload_n (pc' := 31) (i := 1) rfl rfl dX2_copyFrom_30 rfl ?_
  refine e_getR (a := 1) (b := 3) (k0 := 1) (pc' := 34) dX2_copyFrom_31 rfl rfl (Nat.le_of_ble_eq_true rfl) (Nat.le_of_ble_eq_true rfl) rfl mw_130 rfl ?_
  refine e_iconst (v := 0) (pc' := 35) (by decide) dX2_copyFrom_34 rfl ?_
  refine e_aload_n (pc' := 36) (i := 0) rfl rfl dX2_copyFrom_35 rfl ?_
  refine e_getR (a := 28) (b := 30) (k0 := 1) (pc' := 39) dX2_copyFrom_36 rfl rfl (Nat.le_of_ble_eq_true rfl) (Nat.le_of_ble_eq_true rfl) rfl mw_130 rfl ?_
  refine e_iconst (v := 0) (pc' := 40) (by decide) dX2_copyFrom_39 rfl ?_
  refine e_aload_n (pc' := 41) (i := 0) rfl rfl dX2_copyFrom_40 rfl ?_
  refine e_getI (a := 28) (n := 452) (k0 := 4) (pc' := 44) dX2_copyFrom_41 rfl rfl (Nat.le_of_ble_eq_true rfl) (Nat.le_of_ble_eq_true rfl) rfl mw_142 rfl ?_
  refine e_copy (pc' := 47) (n0 := 32) (n1 := 32) dX2_copyFrom_44 rfl mw_417 mw_419 mw_418 mw_108 (Nat.le_of_ble_eq_true rfl) (Nat.le_of_ble_eq_true rfl) rfl (Nat.le_of_ble_eq_true rfl) rfl (Nat.le_of_ble_eq_true rfl) h (fun h => ?_)
  refine e_ltA h (fun A3 h => ?_)
  refine e_aload_n (pc' := 48) (i := 1) rfl rfl dX2_copyFrom_47 rfl ?_
  refine e_getR (a := 1) (b := 4) (k0 := 2) (pc' := 51) dX2_copyFrom_48 rfl rfl (Nat.le_of_ble_eq_true rfl) (Nat.le_of_ble_eq_true rfl) rfl mw_134 rfl ?_
  refine e_iconst (v := 0) (pc' := 52) (by decide) dX2_copyFrom_51 rfl ?_
  refine e_aload_n (pc' := 53) (i := 0) rfl rfl dX2_copyFrom_52 rfl ?_
  refine e_getR (a := 28) (b := 31) (k0 := 2) (pc' := 56) dX2_copyFrom_53 rfl rfl (Nat.le_of_ble_eq_true rfl) (Nat.le_of_ble_eq_true rfl) rfl mw_134 rfl ?_
  refine e_iconst (v := 0) (pc' := 57) (by decide) dX2_copyFrom_56 rfl ?_
  refine e_aload_n (pc' := 58) (i := 0) rfl rfl dX2_copyFrom_57 rfl ?_
  refine e_getI (a := 28) (n := 452) (k0 := 4) (pc' := 61) dX2_copyFrom_58 rfl rfl (Nat.le_of_ble_eq_true rfl) (Nat.le_of_ble_eq_true rfl) rfl mw_142 rfl ?_
  refine e_copy (pc' := 64) (n0 := 32) (n1 := 32) dX2_copyFrom_61 rfl mw_417 mw_419 mw_418 mw_108 (Nat.le_of_ble_eq_true rfl) (Nat.le_of_ble_eq_true rfl) rfl (Nat.le_of_ble_eq_true rfl) rfl (Nat.le_of_ble_eq_true rfl) h (fun h => ?_)
  refine e_ltA h (fun A4 h => ?_)
  refine e_aload_n (pc' := 65) (i := 1) rfl rfl dX2_copyFrom_64 rfl ?_
  refine e_getR (a := 1) (b := 5) (k0 := 3) (pc' := 68) dX2_copyFrom_65 rfl rfl (Nat.le_of_ble_eq_true rfl) (Nat.le_of_ble_eq_true rfl) rfl mw_138 rfl ?_
  refine e_iconst (v := 0) (pc' := 69) (by decide) dX2_copyFrom_68 rfl ?_
  refine e_aload_n (pc' := 70) (i := 0) rfl rfl dX2_copyFrom_69 rfl ?_
  refine e_getR (a := 28) (b := 32) (k0 := 3) (pc' := 73) dX2_copyFrom_70 rfl rfl (Nat.le_of_ble_eq_true rfl) (Nat.le_of_ble_eq_true rfl) rfl mw_138 rfl ?_
  refine e_iconst (v := 0) (pc' := 74) (by decide) dX2_copyFrom_73 rfl ?_
  refine e_aload_n (pc' := 75) (i := 0) rfl rfl dX2_copyFrom_74 rfl ?_
  refine e_getI (a := 28) (n := 452) (k0 := 4) (pc' := 78) dX2_copyFrom_75 rfl rfl (Nat.le_of_ble_eq_true rfl) (Nat.le_of_ble_eq_true rfl) rfl mw_142 rfl ?_
  refine e_copy (pc' := 81) (n0 := 32) (n1 := 32) dX2_copyFrom_78 rfl mw_417 mw_419 mw_418 mw_108 (Nat.le_of_ble_eq_true rfl) (Nat.le_of_ble_eq_true rfl) rfl (Nat.le_of_ble_eq_true rfl) rfl (Nat.le_of_ble_eq_true rfl) h (fun h => ?_)
  refine e_ltA h (fun A5 h => ?_)
  obtain ⟨rfl, rfl, rfl⟩ := g_re3 h
  exact e_vret dX2_copyFrom_81
set_option maxHeartbeats 4000000 in
set_option maxRecDepth 100000 in
theorem c_X2_copyFrom_33_1  {I : Nat → Int32} {A : Nat → Nat → Int32} {L : Nat → Int64} {I' : Nat → Int32} {A' : Nat → Nat → Int32} {L' : Nat → Int64} (h : f_X2_copyFrom 33 1  I A L = some (I', A', L')) : GM 70 yX2_copyFrom cX2_copyFrom 2 none 1 [.ref 33, .ref 1] I A L (none, (I', A', L')) := by
  refine gm_of (n := 0) (lc := [some (.ref 33), some (.ref 1)]) (by decide +kernel) rfl (fun _ => Nat.le_of_ble_eq_true rfl) ?_
  change Ev 70 RX2 cX2_copyFrom 2 none 1 0 [some (.ref 33), some (.ref 1)] [] I A L _
  unfold f_X2_copyFrom at h
  refine e_aload_n (pc' := 1) (i := 1) rfl rfl dX2_copyFrom_0 rfl ?_
  refine e_ifnonnull (tgt := 5) dX2_copyFrom_1 (by decide) ?_
  refine e_aload_n (pc' := 6) (i := 0) rfl rfl dX2_copyFrom_5 rfl ?_
  refine e_aload_n (pc' := 7) (i := 1) rfl rfl dX2_copyFrom_6 rfl ?_
  refine e_getI (a := 1) (n := 20) (k0 := 4) (pc' := 10) dX2_copyFrom_7 rfl rfl (Nat.le_of_ble_eq_true rfl) (Nat.le_of_ble_eq_true rfl) rfl mw_142 rfl ?_
  refine e_putI (a := 33) (n := 532) (k0 := 4) (pc' := 13) dX2_copyFrom_10 rfl rfl (Nat.le_of_ble_eq_true rfl) (Nat.le_of_ble_eq_true rfl) rfl mw_142 rfl rfl g_pI rfl rfl ?_
  refine e_ltI h (fun I1 h => ?_)
  refine e_aload_n (pc' := 14) (i := 1) rfl rfl dX2_copyFrom_13 rfl ?_
  refine e_getR (a := 1) (b := 2) (k0 := 0) (pc' := 17) dX2_copyFrom_14 rfl rfl (Nat.le_of_ble_eq_true rfl) (Nat.le_of_ble_eq_true rfl) rfl mw_126 rfl ?_
  refine e_iconst (v := 0) (pc' := 18) (by decide) dX2_copyFrom_17 rfl ?_
  refine e_aload_n (pc' := 19) (i := 0) rfl rfl dX2_copyFrom_18 rfl ?_
  refine e_getR (a := 33) (b := 34) (k0 := 0) (pc' := 22) dX2_copyFrom_19 rfl rfl (Nat.le_of_ble_eq_true rfl) (Nat.le_of_ble_eq_true rfl) rfl mw_126 rfl ?_
  refine e_iconst (v := 0) (pc' := 23) (by decide) dX2_copyFrom_22 rfl ?_
  refine e_aload_n (pc' := 24) (i := 0) rfl rfl dX2_copyFrom_23 rfl ?_
  refine e_getI (a := 33) (n := 532) (k0 := 4) (pc' := 27) dX2_copyFrom_24 rfl rfl (Nat.le_of_ble_eq_true rfl) (Nat.le_of_ble_eq_true rfl) rfl mw_142 rfl ?_
  refine e_copy (pc' := 30) (n0 := 32) (n1 := 32) dX2_copyFrom_27 rfl mw_417 mw_419 mw_418 mw_108 (Nat.le_of_ble_eq_true rfl) (Nat.le_of_ble_eq_true rfl) rfl (Nat.le_of_ble_eq_true rfl) rfl (Nat.le_of_ble_eq_true rfl) h (fun h => ?_)
  refine e_ltA h (fun A2 h => ?_)
  refine e_aload_n (pc' := 31) (i := 1) rfl rfl dX2_copyFrom_30 rfl ?_
  refine e_getR (a := 1) (b := 3) (k0 := 1) (pc' := 34) dX2_copyFrom_31 rfl rfl (Nat.le_of_ble_eq_true rfl) (Nat.le_of_ble_eq_true rfl) rfl mw_130 rfl ?_
  refine e_iconst (v := 0) (pc' := 35) (by decide) dX2_copyFrom_34 rfl ?_
  refine e_aload_n (pc' := 36) (i := 0) rfl rfl dX2_copyFrom_35 rfl ?_
  refine e_getR (a := 33) (b := 35) (k0 := 1) (pc' := 39) dX2_copyFrom_36 rfl rfl (Nat.le_of_ble_eq_true rfl) (Nat.le_of_ble_eq_true rfl) rfl mw_130 rfl ?_
  refine e_iconst (v := 0) (pc' := 40) (by decide) dX2_copyFrom_39 rfl ?_
  refine e_aload_n (pc' := 41) (i := 0) rfl rfl dX2_copyFrom_40 rfl ?_
  refine e_getI (a := 33) (n := 532) (k0 := 4) (pc' := 44) dX2_copyFrom_41 rfl rfl (Nat.le_of_ble_eq_true rfl) (Nat.le_of_ble_eq_true rfl) rfl mw_142 rfl ?_
  refine e_copy (pc' := 47) (n0 := 32) (n1 := 32) dX2_copyFrom_44 rfl mw_417 mw_419 mw_418 mw_108 (Nat.le_of_ble_eq_true rfl) (Nat.le_of_ble_eq_true rfl) rfl (Nat.le_of_ble_eq_true rfl) rfl (Nat.le_of_ble_eq_true rfl) h (fun h => ?_)
  refine e_ltA h (fun A3 h => ?_)
  refine e_aload_n (pc' := 48) (i := 1) rfl rfl dX2_copyFrom_47 rfl ?_
  refine e_getR (a := 1) (b := 4) (k0 := 2) (pc' := 51) dX2_copyFrom_48 rfl rfl (Nat.le_of_ble_eq_true rfl) (Nat.le_of_ble_eq_true rfl) rfl mw_134 rfl ?_
  refine e_iconst (v := 0) (pc' := 52) (by decide) dX2_copyFrom_51 rfl ?_
  refine e_aload_n (pc' := 53) (i := 0) rfl rfl dX2_copyFrom_52 rfl ?_
  refine e_getR (a := 33) (b := 36) (k0 := 2) (pc' := 56) dX2_copyFrom_53 rfl rfl (Nat.le_of_ble_eq_true rfl) (Nat.le_of_ble_eq_true rfl) rfl mw_134 rfl ?_
  refine e_iconst (v := 0) (pc' := 57) (by decide) dX2_copyFrom_56 rfl ?_
  refine e_aload_n (pc' := 58) (i := 0) rfl rfl dX2_copyFrom_57 rfl ?_
  refine e_getI (a := 33) (n := 532) (k0 := 4) (pc' := 61) dX2_copyFrom_58 rfl rfl (Nat.le_of_ble_eq_true rfl) (Nat.le_of_ble_eq_true rfl) rfl mw_142 rfl ?_
  refine e_copy (pc' := 64) (n0 := 32) (n1 := 32) dX2_copyFrom_61 rfl mw_417 mw_419 mw_418 mw_108 (Nat.le_of_ble_eq_true rfl) (Nat.le_of_ble_eq_true rfl) rfl (Nat.le_of_ble_eq_true rfl) rfl (Nat.le_of_ble_eq_true rfl) h (fun h => ?_)
  refine e_ltA h (fun A4 h => ?_)
  refine e_aload_n (pc' := 65) (i := 1) rfl rfl dX2_copyFrom_64 rfl ?_
  refine e_getR (a := 1) (b := 5) (k0 := 3) (pc' := 68) dX2_copyFrom_65 rfl rfl (Nat.le_of_ble_eq_true rfl) (Nat.le_of_ble_eq_true rfl) rfl mw_138 rfl ?_
  refine e_iconst (v := 0) (pc' := 69) (by decide) dX2_copyFrom_68 rfl ?_
  refine e_aload_n (pc' := 70) (i := 0) rfl rfl dX2_copyFrom_69 rfl ?_
  refine e_getR (a := 33) (b := 37) (k0 := 3) (pc' := 73) dX2_copyFrom_70 rfl rfl (Nat.le_of_ble_eq_true rfl) (Nat.le_of_ble_eq_true rfl) rfl mw_138 rfl ?_
  refine e_iconst (v := 0) (pc' := 74) (by decide) dX2_copyFrom_73 rfl ?_
  refine e_aload_n (pc' := 75) (i := 0) rfl rfl dX2_copyFrom_74 rfl ?_
  refine e_getI (a := 33) (n := 532) (k0 := 4) (pc' := 78) dX2_copyFrom_75 rfl rfl (Nat.le_of_ble_eq_true rfl) (Nat.le_of_ble_eq_true rfl) rfl mw_142 rfl ?_
  refine e_copy (pc' := 81) (n0 := 32) (n1 := 32) dX2_copyFrom_78 rfl mw_417 mw_419 mw_418 mw_108 (Nat.le_of_ble_eq_true rfl) (Nat.le_of_ble_eq_true rfl) rfl (Nat.le_of_ble_eq_true rfl) rfl (Nat.le_of_ble_eq_true rfl) h (fun h => ?_)
  refine e_ltA h (fun A5 h => ?_)
  obtain ⟨rfl, rfl, rfl⟩ := g_re3 h
  exact e_vret dX2_copyFrom_81
set_option maxHeartbeats 4000000 in
set_option maxRecDepth 100000 in
theorem c_X5_keep_1  {I : Nat → Int32} {A : Nat → Nat → Int32} {L : Nat → Int64} {I' : Nat → Int32} {A' : Nat → Nat → Int32} {L' : Nat → Int64} (h : f_X5_keep 1  I A L = some (I', A', L')) : GM 70 yX5_keep cX5_keep 3 none 2 [.ref 11, .ref 1] I A L (none, (I', A', L')) := by
  refine gm_of (n := 1) (lc := [some (.ref 11), some (.ref 1), none]) (by decide +kernel) rfl (fun _ => Nat.le_of_ble_eq_true rfl) ?_
  change Ev 70 RX5 cX5_keep 3 none 2 0 [some (.ref 11), some (.ref 1), none] [] I A L _
  unfold f_X5_keep at h
  refine e_aload_n (pc' := 1) (i := 0) rfl rfl dX5_keep_0 rfl ?_
  refine e_aload_n (pc' := 2) (i := 0) rfl rfl dX5_keep_1 rfl ?_
  refine e_getI (a := 11) (n := 177) (k0 := 1) (pc' := 5) dX5_keep_2 rfl rfl (Nat.le_of_ble_eq_true rfl) (Nat.le_of_ble_eq_true rfl) rfl mw_169 rfl ?_
  refine e_iconst (v := 1) (pc' := 6) (by decide) dX5_keep_5 rfl ?_
  refine e_iadd (pc' := 7) dX5_keep_6 rfl ?_
  refine e_iconst (v := 5) (pc' := 8) (by decide) dX5_keep_7 rfl ?_
  refine e_irem (pc' := 9) (by decide) dX5_keep_8 rfl ?_
  refine e_putI (a := 11) (n := 177) (k0 := 1) (pc' := 12) dX5_keep_9 rfl rfl (Nat.le_of_ble_eq_true rfl) (Nat.le_of_ble_eq_true rfl) rfl mw_169 rfl rfl g_pI rfl rfl ?_
  refine e_ltI h (fun I1 h => ?_)
  refine e_aload_n (pc' := 13) (i := 0) rfl rfl dX5_keep_12 rfl ?_
  refine e_getR (a := 11) (b := 12) (k0 := 0) (pc' := 16) dX5_keep_13 rfl rfl (Nat.le_of_ble_eq_true rfl) (Nat.le_of_ble_eq_true rfl) rfl mw_168 rfl ?_
  refine e_aload_n (pc' := 17) (i := 0) rfl rfl dX5_keep_16 rfl ?_
  refine e_getI (a := 11) (n := 177) (k0 := 1) (pc' := 20) dX5_keep_17 rfl rfl (Nat.le_of_ble_eq_true rfl) (Nat.le_of_ble_eq_true rfl) rfl mw_169 rfl ?_
  refine e_ring (pc' := 21) dX5_keep_20 rfl (Nat.le_of_ble_eq_true rfl) h (fun h hj2 => ?_)
  rcases (show (Int32.toNatClampNeg (I1 177)) = 0 ∨ (Int32.toNatClampNeg (I1 177)) = 1 ∨ (Int32.toNatClampNeg (I1 177)) = 2 ∨ (Int32.toNatClampNeg (I1 177)) = 3 ∨ (Int32.toNatClampNeg (I1 177)) = 4 by omega) with hq3 | hq9 | hq15 | hq21 | hq27
  · rw [hq3] at h ⊢
    refine e_astore_n (pc' := 22) (i := 2) (lc' := [some (.ref 11), some (.ref 1), some (.ref (13 + 5 * 0))]) rfl dX5_keep_21 rfl (Nat.le_of_ble_eq_true rfl) rfl rfl ?_
    refine e_aload_n (pc' := 23) (i := 2) rfl rfl dX5_keep_22 rfl ?_
    refine e_ifnull (pc' := 26) dX5_keep_23 rfl ?_
    refine e_aload_n (pc' := 27) (i := 2) rfl rfl dX5_keep_26 rfl ?_
    refine e_aload_n (pc' := 28) (i := 1) rfl rfl dX5_keep_27 rfl ?_
    obtain ⟨I5, A6, L7, hF4, h⟩ := g_b1_e h
    refine e_callVN_v (pc' := 31) dX5_keep_28 rfl mw_413 mv_X2_copyFrom rfl (Nat.le_of_ble_eq_true rfl) (Nat.le_of_ble_eq_true rfl) rfl (Nat.le_of_ble_eq_true rfl) (Nat.le_of_ble_eq_true rfl) rfl (c_X2_copyFrom_13_1 hF4) rfl ?_
    refine e_aload_n (pc' := 32) (i := 0) rfl rfl dX5_keep_31 rfl ?_
    refine e_iconst (v := 5) (pc' := 33) (by decide) dX5_keep_32 rfl ?_
    refine e_aload_n (pc' := 34) (i := 0) rfl rfl dX5_keep_33 rfl ?_
    refine e_getI (a := 11) (n := 178) (k0 := 2) (pc' := 37) dX5_keep_34 rfl rfl (Nat.le_of_ble_eq_true rfl) (Nat.le_of_ble_eq_true rfl) rfl mw_170 rfl ?_
    refine e_iconst (v := 1) (pc' := 38) (by decide) dX5_keep_37 rfl ?_
    refine e_iadd (pc' := 39) dX5_keep_38 rfl ?_
    refine e_mmin (pc' := 42) dX5_keep_39 rfl mw_420 mw_421 mw_109 mw_422 (Nat.le_of_ble_eq_true rfl) (Nat.le_of_ble_eq_true rfl) ?_
    refine e_putI (a := 11) (n := 178) (k0 := 2) (pc' := 45) dX5_keep_42 rfl rfl (Nat.le_of_ble_eq_true rfl) (Nat.le_of_ble_eq_true rfl) rfl mw_170 rfl rfl g_pI rfl rfl ?_
    refine e_ltI h (fun I8 h => ?_)
    obtain ⟨rfl, rfl, rfl⟩ := g_re3 h
    exact e_vret dX5_keep_45
  · rw [hq9] at h ⊢
    refine e_astore_n (pc' := 22) (i := 2) (lc' := [some (.ref 11), some (.ref 1), some (.ref (13 + 5 * 1))]) rfl dX5_keep_21 rfl (Nat.le_of_ble_eq_true rfl) rfl rfl ?_
    refine e_aload_n (pc' := 23) (i := 2) rfl rfl dX5_keep_22 rfl ?_
    refine e_ifnull (pc' := 26) dX5_keep_23 rfl ?_
    refine e_aload_n (pc' := 27) (i := 2) rfl rfl dX5_keep_26 rfl ?_
    refine e_aload_n (pc' := 28) (i := 1) rfl rfl dX5_keep_27 rfl ?_
    obtain ⟨I11, A12, L13, hF10, h⟩ := g_b1_e h
    refine e_callVN_v (pc' := 31) dX5_keep_28 rfl mw_413 mv_X2_copyFrom rfl (Nat.le_of_ble_eq_true rfl) (Nat.le_of_ble_eq_true rfl) rfl (Nat.le_of_ble_eq_true rfl) (Nat.le_of_ble_eq_true rfl) rfl (c_X2_copyFrom_18_1 hF10) rfl ?_
    refine e_aload_n (pc' := 32) (i := 0) rfl rfl dX5_keep_31 rfl ?_
    refine e_iconst (v := 5) (pc' := 33) (by decide) dX5_keep_32 rfl ?_
    refine e_aload_n (pc' := 34) (i := 0) rfl rfl dX5_keep_33 rfl ?_
    refine e_getI (a := 11) (n := 178) (k0 := 2) (pc' := 37) dX5_keep_34 rfl rfl (Nat.le_of_ble_eq_true rfl) (Nat.le_of_ble_eq_true rfl) rfl mw_170 rfl ?_
    refine e_iconst (v := 1) (pc' := 38) (by decide) dX5_keep_37 rfl ?_
    refine e_iadd (pc' := 39) dX5_keep_38 rfl ?_
    refine e_mmin (pc' := 42) dX5_keep_39 rfl mw_420 mw_421 mw_109 mw_422 (Nat.le_of_ble_eq_true rfl) (Nat.le_of_ble_eq_true rfl) ?_
    refine e_putI (a := 11) (n := 178) (k0 := 2) (pc' := 45) dX5_keep_42 rfl rfl (Nat.le_of_ble_eq_true rfl) (Nat.le_of_ble_eq_true rfl) rfl mw_170 rfl rfl g_pI rfl rfl ?_
    refine e_ltI h (fun I14 h => ?_)
    obtain ⟨rfl, rfl, rfl⟩ := g_re3 h
    exact e_vret dX5_keep_45
  · rw [hq15] at h ⊢
    refine e_astore_n (pc' := 22) (i := 2) (lc' := [some (.ref 11), some (.ref 1), some (.ref (13 + 5 * 2))]) rfl dX5_keep_21 rfl (Nat.le_of_ble_eq_true rfl) rfl rfl ?_
    refine e_aload_n (pc' := 23) (i := 2) rfl rfl dX5_keep_22 rfl ?_
    refine e_ifnull (pc' := 26) dX5_keep_23 rfl ?_
    refine e_aload_n (pc' := 27) (i := 2) rfl rfl dX5_keep_26 rfl ?_
    refine e_aload_n (pc' := 28) (i := 1) rfl rfl dX5_keep_27 rfl ?_
    obtain ⟨I17, A18, L19, hF16, h⟩ := g_b1_e h
    refine e_callVN_v (pc' := 31) dX5_keep_28 rfl mw_413 mv_X2_copyFrom rfl (Nat.le_of_ble_eq_true rfl) (Nat.le_of_ble_eq_true rfl) rfl (Nat.le_of_ble_eq_true rfl) (Nat.le_of_ble_eq_true rfl) rfl (c_X2_copyFrom_23_1 hF16) rfl ?_
    refine e_aload_n (pc' := 32) (i := 0) rfl rfl dX5_keep_31 rfl ?_
    refine e_iconst (v := 5) (pc' := 33) (by decide) dX5_keep_32 rfl ?_
    refine e_aload_n (pc' := 34) (i := 0) rfl rfl dX5_keep_33 rfl ?_
    refine e_getI (a := 11) (n := 178) (k0 := 2) (pc' := 37) dX5_keep_34 rfl rfl (Nat.le_of_ble_eq_true rfl) (Nat.le_of_ble_eq_true rfl) rfl mw_170 rfl ?_
    refine e_iconst (v := 1) (pc' := 38) (by decide) dX5_keep_37 rfl ?_
    refine e_iadd (pc' := 39) dX5_keep_38 rfl ?_
    refine e_mmin (pc' := 42) dX5_keep_39 rfl mw_420 mw_421 mw_109 mw_422 (Nat.le_of_ble_eq_true rfl) (Nat.le_of_ble_eq_true rfl) ?_
    refine e_putI (a := 11) (n := 178) (k0 := 2) (pc' := 45) dX5_keep_42 rfl rfl (Nat.le_of_ble_eq_true rfl) (Nat.le_of_ble_eq_true rfl) rfl mw_170 rfl rfl g_pI rfl rfl ?_
    refine e_ltI h (fun I20 h => ?_)
    obtain ⟨rfl, rfl, rfl⟩ := g_re3 h
    exact e_vret dX5_keep_45
  · rw [hq21] at h ⊢
    refine e_astore_n (pc' := 22) (i := 2) (lc' := [some (.ref 11), some (.ref 1), some (.ref (13 + 5 * 3))]) rfl dX5_keep_21 rfl (Nat.le_of_ble_eq_true rfl) rfl rfl ?_
    refine e_aload_n (pc' := 23) (i := 2) rfl rfl dX5_keep_22 rfl ?_
    refine e_ifnull (pc' := 26) dX5_keep_23 rfl ?_
    refine e_aload_n (pc' := 27) (i := 2) rfl rfl dX5_keep_26 rfl ?_
    refine e_aload_n (pc' := 28) (i := 1) rfl rfl dX5_keep_27 rfl ?_
    obtain ⟨I23, A24, L25, hF22, h⟩ := g_b1_e h
    refine e_callVN_v (pc' := 31) dX5_keep_28 rfl mw_413 mv_X2_copyFrom rfl (Nat.le_of_ble_eq_true rfl) (Nat.le_of_ble_eq_true rfl) rfl (Nat.le_of_ble_eq_true rfl) (Nat.le_of_ble_eq_true rfl) rfl (c_X2_copyFrom_28_1 hF22) rfl ?_
    refine e_aload_n (pc' := 32) (i := 0) rfl rfl dX5_keep_31 rfl ?_
    refine e_iconst (v := 5) (pc' := 33) (by decide) dX5_keep_32 rfl ?_
    refine e_aload_n (pc' := 34) (i := 0) rfl rfl dX5_keep_33 rfl ?_
    refine e_getI (a := 11) (n := 178) (k0 := 2) (pc' := 37) dX5_keep_34 rfl rfl (Nat.le_of_ble_eq_true rfl) (Nat.le_of_ble_eq_true rfl) rfl mw_170 rfl ?_
    refine e_iconst (v := 1) (pc' := 38) (by decide) dX5_keep_37 rfl ?_
    refine e_iadd (pc' := 39) dX5_keep_38 rfl ?_
    refine e_mmin (pc' := 42) dX5_keep_39 rfl mw_420 mw_421 mw_109 mw_422 (Nat.le_of_ble_eq_true rfl) (Nat.le_of_ble_eq_true rfl) ?_
    refine e_putI (a := 11) (n := 178) (k0 := 2) (pc' := 45) dX5_keep_42 rfl rfl (Nat.le_of_ble_eq_true rfl) (Nat.le_of_ble_eq_true rfl) rfl mw_170 rfl rfl g_pI rfl rfl ?_
    refine e_ltI h (fun I26 h => ?_)
    obtain ⟨rfl, rfl, rfl⟩ := g_re3 h
    exact e_vret dX5_keep_45
  · rw [hq27] at h ⊢
    refine e_astore_n (pc' := 22) (i := 2) (lc' := [some (.ref 11), some (.ref 1), some (.ref (13 + 5 * 4))]) rfl dX5_keep_21 rfl (Nat.le_of_ble_eq_true rfl) rfl rfl ?_
    refine e_aload_n (pc' := 23) (i := 2) rfl rfl dX5_keep_22 rfl ?_
    refine e_ifnull (pc' := 26) dX5_keep_23 rfl ?_
    refine e_aload_n (pc' := 27) (i := 2) rfl rfl dX5_keep_26 rfl ?_
    refine e_aload_n (pc' := 28) (i := 1) rfl rfl dX5_keep_27 rfl ?_
    obtain ⟨I29, A30, L31, hF28, h⟩ := g_b1_e h
    refine e_callVN_v (pc' := 31) dX5_keep_28 rfl mw_413 mv_X2_copyFrom rfl (Nat.le_of_ble_eq_true rfl) (Nat.le_of_ble_eq_true rfl) rfl (Nat.le_of_ble_eq_true rfl) (Nat.le_of_ble_eq_true rfl) rfl (c_X2_copyFrom_33_1 hF28) rfl ?_
    refine e_aload_n (pc' := 32) (i := 0) rfl rfl dX5_keep_31 rfl ?_
    refine e_iconst (v := 5) (pc' := 33) (by decide) dX5_keep_32 rfl ?_
    refine e_aload_n (pc' := 34) (i := 0) rfl rfl dX5_keep_33 rfl ?_
    refine e_getI (a := 11) (n := 178) (k0 := 2) (pc' := 37) dX5_keep_34 rfl rfl (Nat.le_of_ble_eq_true rfl) (Nat.le_of_ble_eq_true rfl) rfl mw_170 rfl ?_
    refine e_iconst (v := 1) (pc' := 38) (by decide) dX5_keep_37 rfl ?_
    refine e_iadd (pc' := 39) dX5_keep_38 rfl ?_
    refine e_mmin (pc' := 42) dX5_keep_39 rfl mw_420 mw_421 mw_109 mw_422 (Nat.le_of_ble_eq_true rfl) (Nat.le_of_ble_eq_true rfl) ?_
    refine e_putI (a := 11) (n := 178) (k0 := 2) (pc' := 45) dX5_keep_42 rfl rfl (Nat.le_of_ble_eq_true rfl) (Nat.le_of_ble_eq_true rfl) rfl mw_170 rfl rfl g_pI rfl rfl ?_
    refine e_ltI h (fun I32 h => ?_)
    obtain ⟨rfl, rfl, rfl⟩ := g_re3 h
    exact e_vret dX5_keep_45
set_option maxHeartbeats 4000000 in
set_option maxRecDepth 100000 in
theorem c_X6_forgetCrystal  {I : Nat → Int32} {A : Nat → Nat → Int32} {L : Nat → Int64} {I' : Nat → Int32} {A' : Nat → Nat → Int32} {L' : Nat → Int64} (h : f_X6_forgetCrystal   I A L = some (I', A', L')) : GM 70 yX6_forgetCrystal cX6_forgetCrystal 1 none 0 [.ref 0] I A L (none, (I', A', L')) := by
  refine gm_of (n := 0) (lc := [some (.ref 0)]) (by decide +kernel) rfl (fun _ => Nat.le_of_ble_eq_true rfl) ?_
  change Ev 70 RX6 cX6_forgetCrystal 1 none 0 0 [some (.ref 0)] [] I A L _
  unfold f_X6_forgetCrystal at h
  refine e_aload_n (pc' := 1) (i := 0) rfl rfl dX6_forgetCrystal_0 rfl ?_
  refine e_iconst (v := 0) (pc' := 2) (by decide) dX6_forgetCrystal_1 rfl ?_
  refine e_putI (a := 0) (n := 7) (k0 := 7) (pc' := 5) dX6_forgetCrystal_2 rfl rfl (Nat.le_of_ble_eq_true rfl) (Nat.le_of_ble_eq_true rfl) rfl mw_342 rfl rfl g_pZ rfl rfl ?_
  refine e_ltI h (fun I1 h => ?_)
  refine e_aload_n (pc' := 6) (i := 0) rfl rfl dX6_forgetCrystal_5 rfl ?_
  refine e_iconst (v := 0) (pc' := 7) (by decide) dX6_forgetCrystal_6 rfl ?_
  refine e_putI (a := 0) (n := 8) (k0 := 8) (pc' := 10) dX6_forgetCrystal_7 rfl rfl (Nat.le_of_ble_eq_true rfl) (Nat.le_of_ble_eq_true rfl) rfl mw_343 rfl rfl g_pZ rfl rfl ?_
  refine e_ltI h (fun I2 h => ?_)
  obtain ⟨rfl, rfl, rfl⟩ := g_re3 h
  exact e_vret dX6_forgetCrystal_10
set_option maxHeartbeats 4000000 in
set_option maxRecDepth 100000 in
theorem c_X6_leaveState  {I : Nat → Int32} {A : Nat → Nat → Int32} {L : Nat → Int64} {I' : Nat → Int32} {A' : Nat → Nat → Int32} {L' : Nat → Int64} (h : f_X6_leaveState   I A L = some (I', A', L')) : GM 70 yX6_leaveState cX6_leaveState 1 none 3 [.ref 0] I A L (none, (I', A', L')) := by
  refine gm_of (n := 0) (lc := [some (.ref 0)]) (by decide +kernel) rfl (fun _ => Nat.le_of_ble_eq_true rfl) ?_
  change Ev 70 RX6 cX6_leaveState 1 none 3 0 [some (.ref 0)] [] I A L _
  unfold f_X6_leaveState at h
  refine e_aload_n (pc' := 1) (i := 0) rfl rfl dX6_leaveState_0 rfl ?_
  refine e_getR (a := 0) (b := 11) (k0 := 2) (pc' := 4) dX6_leaveState_1 rfl rfl (Nat.le_of_ble_eq_true rfl) (Nat.le_of_ble_eq_true rfl) rfl mw_337 rfl ?_
  refine e_aload_n (pc' := 5) (i := 0) rfl rfl dX6_leaveState_4 rfl ?_
  refine e_getR (a := 0) (b := 1) (k0 := 0) (pc' := 8) dX6_leaveState_5 rfl rfl (Nat.le_of_ble_eq_true rfl) (Nat.le_of_ble_eq_true rfl) rfl mw_335 rfl ?_
  obtain ⟨I2, A3, L4, hF1, h⟩ := g_b1_e h
  refine e_callVN_v (pc' := 11) dX6_leaveState_8 rfl mw_409 mv_X5_keep rfl (Nat.le_of_ble_eq_true rfl) (Nat.le_of_ble_eq_true rfl) rfl (Nat.le_of_ble_eq_true rfl) (Nat.le_of_ble_eq_true rfl) rfl (c_X5_keep_1 hF1) rfl ?_
  refine e_aload_n (pc' := 12) (i := 0) rfl rfl dX6_leaveState_11 rfl ?_
  obtain ⟨I6, A7, L8, hF5, h⟩ := g_b1_e h
  refine e_callV_v (pc' := 15) dX6_leaveState_12 rfl mw_423 mv_X6_forgetCrystal rfl (Nat.le_of_ble_eq_true rfl) (Nat.le_of_ble_eq_true rfl) rfl (Nat.le_of_ble_eq_true rfl) (Nat.le_of_ble_eq_true rfl) rfl (c_X6_forgetCrystal hF5) rfl ?_
  obtain ⟨rfl, rfl, rfl⟩ := g_re3 h
  exact e_vret dX6_leaveState_15
set_option maxHeartbeats 4000000 in
set_option maxRecDepth 100000 in
theorem c_X2_put_1 (a0 : Int32) (a1 : Int32) (a2 : Int32) (a3 : Int32) {I : Nat → Int32} {A : Nat → Nat → Int32} {L : Nat → Int64} {I' : Nat → Int32} {A' : Nat → Nat → Int32} {L' : Nat → Int64} (h : f_X2_put 1 a0 a1 a2 a3 I A L = some (I', A', L')) : GM 70 yX2_put cX2_put 5 none 0 [.ref 1, .int a0, .int a1, .int a2, .int a3] I A L (none, (I', A', L')) := by
  refine gm_of (n := 0) (lc := [some (.ref 1), some (.int a0), some (.int a1), some (.int a2), some (.int a3)]) (by decide +kernel) rfl (fun _ => Nat.le_of_ble_eq_true rfl) ?_
  change Ev 70 RX2 cX2_put 5 none 0 0 [some (.ref 1), some (.int a0), some (.int a1), some (.int a2), some (.int a3)] [] I A L _
  unfold f_X2_put at h
  refine e_aload_n (pc' := 1) (i := 0) rfl rfl dX2_put_0 rfl ?_
  refine e_getI (a := 1) (n := 20) (k0 := 4) (pc' := 4) dX2_put_1 rfl rfl (Nat.le_of_ble_eq_true rfl) (Nat.le_of_ble_eq_true rfl) rfl mw_142 rfl ?_
  refine e_bipush (v := 32) (pc' := 6) (by decide) dX2_put_4 rfl ?_
  refine e_icmp_ge (tgt := 60) (pc' := 9) dX2_put_6 (by decide) rfl h (fun h => ?_) (fun h => ?_)
  · obtain ⟨rfl, rfl, rfl⟩ := g_re3 h
    exact e_vret dX2_put_60
  · refine e_aload_n (pc' := 10) (i := 0) rfl rfl dX2_put_9 rfl ?_
    refine e_getR (a := 1) (b := 2) (k0 := 0) (pc' := 13) dX2_put_10 rfl rfl (Nat.le_of_ble_eq_true rfl) (Nat.le_of_ble_eq_true rfl) rfl mw_126 rfl ?_
    refine e_aload_n (pc' := 14) (i := 0) rfl rfl dX2_put_13 rfl ?_
    refine e_getI (a := 1) (n := 20) (k0 := 4) (pc' := 17) dX2_put_14 rfl rfl (Nat.le_of_ble_eq_true rfl) (Nat.le_of_ble_eq_true rfl) rfl mw_142 rfl ?_
    refine e_iload_n (pc' := 18) (i := 1) rfl rfl dX2_put_17 rfl ?_
    refine e_iast (n := 32) (pc' := 19) dX2_put_18 rfl rfl (Nat.le_of_ble_eq_true rfl) h (fun h => ?_)
    refine e_ltA h (fun A1 h => ?_)
    refine e_aload_n (pc' := 20) (i := 0) rfl rfl dX2_put_19 rfl ?_
    refine e_getR (a := 1) (b := 3) (k0 := 1) (pc' := 23) dX2_put_20 rfl rfl (Nat.le_of_ble_eq_true rfl) (Nat.le_of_ble_eq_true rfl) rfl mw_130 rfl ?_
    refine e_aload_n (pc' := 24) (i := 0) rfl rfl dX2_put_23 rfl ?_
    refine e_getI (a := 1) (n := 20) (k0 := 4) (pc' := 27) dX2_put_24 rfl rfl (Nat.le_of_ble_eq_true rfl) (Nat.le_of_ble_eq_true rfl) rfl mw_142 rfl ?_
    refine e_iload_n (pc' := 28) (i := 2) rfl rfl dX2_put_27 rfl ?_
    refine e_iast (n := 32) (pc' := 29) dX2_put_28 rfl rfl (Nat.le_of_ble_eq_true rfl) h (fun h => ?_)
    refine e_ltA h (fun A2 h => ?_)
    refine e_aload_n (pc' := 30) (i := 0) rfl rfl dX2_put_29 rfl ?_
    refine e_getR (a := 1) (b := 4) (k0 := 2) (pc' := 33) dX2_put_30 rfl rfl (Nat.le_of_ble_eq_true rfl) (Nat.le_of_ble_eq_true rfl) rfl mw_134 rfl ?_
    refine e_aload_n (pc' := 34) (i := 0) rfl rfl dX2_put_33 rfl ?_
    refine e_getI (a := 1) (n := 20) (k0 := 4) (pc' := 37) dX2_put_34 rfl rfl (Nat.le_of_ble_eq_true rfl) (Nat.le_of_ble_eq_true rfl) rfl mw_142 rfl ?_
    refine e_iload_n (pc' := 38) (i := 3) rfl rfl dX2_put_37 rfl ?_
    refine e_iast (n := 32) (pc' := 39) dX2_put_38 rfl rfl (Nat.le_of_ble_eq_true rfl) h (fun h => ?_)
    refine e_ltA h (fun A3 h => ?_)
    refine e_aload_n (pc' := 40) (i := 0) rfl rfl dX2_put_39 rfl ?_
    refine e_getR (a := 1) (b := 5) (k0 := 3) (pc' := 43) dX2_put_40 rfl rfl (Nat.le_of_ble_eq_true rfl) (Nat.le_of_ble_eq_true rfl) rfl mw_138 rfl ?_
    refine e_aload_n (pc' := 44) (i := 0) rfl rfl dX2_put_43 rfl ?_
    refine e_getI (a := 1) (n := 20) (k0 := 4) (pc' := 47) dX2_put_44 rfl rfl (Nat.le_of_ble_eq_true rfl) (Nat.le_of_ble_eq_true rfl) rfl mw_142 rfl ?_
    refine e_iload (pc' := 49) (i := 4) rfl dX2_put_47 rfl ?_
    refine e_iast (n := 32) (pc' := 50) dX2_put_49 rfl rfl (Nat.le_of_ble_eq_true rfl) h (fun h => ?_)
    refine e_ltA h (fun A4 h => ?_)
    refine e_aload_n (pc' := 51) (i := 0) rfl rfl dX2_put_50 rfl ?_
    refine e_dup (pc' := 52) rfl dX2_put_51 rfl ?_
    refine e_getI (a := 1) (n := 20) (k0 := 4) (pc' := 55) dX2_put_52 rfl rfl (Nat.le_of_ble_eq_true rfl) (Nat.le_of_ble_eq_true rfl) rfl mw_142 rfl ?_
    refine e_iconst (v := 1) (pc' := 56) (by decide) dX2_put_55 rfl ?_
    refine e_iadd (pc' := 57) dX2_put_56 rfl ?_
    refine e_putI (a := 1) (n := 20) (k0 := 4) (pc' := 60) dX2_put_57 rfl rfl (Nat.le_of_ble_eq_true rfl) (Nat.le_of_ble_eq_true rfl) rfl mw_142 rfl rfl g_pI rfl rfl ?_
    refine e_ltI h (fun I5 h => ?_)
    obtain ⟨rfl, rfl, rfl⟩ := g_re3 h
    exact e_vret dX2_put_60
set_option maxHeartbeats 4000000 in
set_option maxRecDepth 100000 in
theorem c_X6_refuseFull  {I : Nat → Int32} {A : Nat → Nat → Int32} {L : Nat → Int64} {t : Int32} {I' : Nat → Int32} {A' : Nat → Nat → Int32} {L' : Nat → Int64} (h : f_X6_refuseFull   I A L = some (t, I', A', L')) : GM 70 yX6_refuseFull cX6_refuseFull 1 (some .int) 0 [.ref 0] I A L (some (.int t), (I', A', L')) := by
  refine gm_of (n := 0) (lc := [some (.ref 0)]) (by decide +kernel) rfl (fun _ => Nat.le_of_ble_eq_true rfl) ?_
  change Ev 70 RX6 cX6_refuseFull 1 (some .int) 0 0 [some (.ref 0)] [] I A L _
  unfold f_X6_refuseFull at h
  refine e_aload_n (pc' := 1) (i := 0) rfl rfl dX6_refuseFull_0 rfl ?_
  refine e_dup (pc' := 2) rfl dX6_refuseFull_1 rfl ?_
  refine e_getI (a := 0) (n := 15) (k0 := 15) (pc' := 5) dX6_refuseFull_2 rfl rfl (Nat.le_of_ble_eq_true rfl) (Nat.le_of_ble_eq_true rfl) rfl mw_350 rfl ?_
  refine e_iconst (v := 1) (pc' := 6) (by decide) dX6_refuseFull_5 rfl ?_
  refine e_iadd (pc' := 7) dX6_refuseFull_6 rfl ?_
  refine e_putI (a := 0) (n := 15) (k0 := 15) (pc' := 10) dX6_refuseFull_7 rfl rfl (Nat.le_of_ble_eq_true rfl) (Nat.le_of_ble_eq_true rfl) rfl mw_350 rfl rfl g_pI rfl rfl ?_
  refine e_ltI h (fun I1 h => ?_)
  refine e_bipush (v := (-4)) (pc' := 12) (by decide) dX6_refuseFull_10 rfl ?_
  obtain ⟨rfl, rfl, rfl, rfl⟩ := g_re4 h
  exact e_iret dX6_refuseFull_12
set_option maxHeartbeats 4000000 in
set_option maxRecDepth 100000 in
theorem w_X6_plane_p17  : ∀ (I : Nat → Int32) (A : Nat → Nat → Int32) (L : Nat → Int64) (t : (Int32 × gS)), f_X6_plane_p17 I A L = some t → Ev 70 RX6 cX6_plane 5 (some .int) 4 17 [some (.ref 0), none, none, none, none] [] I A L (some (.int t.1), t.2) := by
  intro  I A L t h
  unfold f_X6_plane_p17 at h
  refine e_aload_n (pc' := 18) (i := 0) rfl rfl dX6_plane_17 rfl ?_
  refine e_bipush (v := (-2)) (pc' := 20) (by decide) dX6_plane_18 rfl ?_
  obtain ⟨v5, I2, A3, L4, hF1, h⟩ := g_b2_e h
  refine e_callV_i (pc' := 23) dX6_plane_20 rfl mw_397 mv_X6_refuseBad rfl (Nat.le_of_ble_eq_true rfl) (Nat.le_of_ble_eq_true rfl) rfl (Nat.le_of_ble_eq_true rfl) (Nat.le_of_ble_eq_true rfl) rfl (c_X6_refuseBad _ hF1) rfl ?_
  obtain rfl := g_re1 h
  exact e_iret dX6_plane_23
set_option maxHeartbeats 4000000 in
set_option maxRecDepth 100000 in
theorem c_X6_plane (a0 : Int32) (a1 : Int32) (a2 : Int32) (a3 : Int32) {I : Nat → Int32} {A : Nat → Nat → Int32} {L : Nat → Int64} {t : Int32} {I' : Nat → Int32} {A' : Nat → Nat → Int32} {L' : Nat → Int64} (h : f_X6_plane  a0 a1 a2 a3 I A L = some (t, I', A', L')) : GM 70 yX6_plane cX6_plane 5 (some .int) 4 [.ref 0, .int a0, .int a1, .int a2, .int a3] I A L (some (.int t), (I', A', L')) := by
  refine gm_of (n := 0) (lc := [some (.ref 0), some (.int a0), some (.int a1), some (.int a2), some (.int a3)]) (by decide +kernel) rfl (fun _ => Nat.le_of_ble_eq_true rfl) ?_
  change Ev 70 RX6 cX6_plane 5 (some .int) 4 0 [some (.ref 0), some (.int a0), some (.int a1), some (.int a2), some (.int a3)] [] I A L _
  unfold f_X6_plane at h
  refine e_iload_n (pc' := 1) (i := 1) rfl rfl dX6_plane_0 rfl ?_
  refine e_iload_n (pc' := 2) (i := 2) rfl rfl dX6_plane_1 rfl ?_
  refine e_iload_n (pc' := 3) (i := 3) rfl rfl dX6_plane_2 rfl ?_
  obtain ⟨v2, hF1, h⟩ := g_bd_e h
  refine e_callS_i (pc' := 6) dX6_plane_3 rfl mw_388 ms_X6_isSign rfl (Nat.le_of_ble_eq_true rfl) (Nat.le_of_ble_eq_true rfl) (c_X6_isSign _ _ _ hF1) rfl ?_
  refine e_if_eq (tgt := 17) (pc' := 9) dX6_plane_6 (by decide) rfl h (fun h => ?_) (fun h => ?_)
  · exact e_weak (lc' := [some (.ref 0), none, none, none, none]) (gle_s (gle_n (gle_n (gle_n (gle_n gle_0))))) (w_X6_plane_p17  _ _ _ _ h)
  · refine e_iload (pc' := 11) (i := 4) rfl dX6_plane_9 rfl ?_
    obtain ⟨v4, hF3, h⟩ := g_bd_e h
    refine e_callS_i (pc' := 14) dX6_plane_11 rfl mw_394 ms_X6_isOff rfl (Nat.le_of_ble_eq_true rfl) (Nat.le_of_ble_eq_true rfl) (c_X6_isOff _ hF3) rfl ?_
    refine e_if_ne (tgt := 24) (pc' := 17) dX6_plane_14 (by decide) rfl h (fun h => ?_) (fun h => ?_)
    · refine e_aload_n (pc' := 25) (i := 0) rfl rfl dX6_plane_24 rfl ?_
      refine e_getR (a := 0) (b := 1) (k0 := 0) (pc' := 28) dX6_plane_25 rfl rfl (Nat.le_of_ble_eq_true rfl) (Nat.le_of_ble_eq_true rfl) rfl mw_335 rfl ?_
      refine e_getIN (a := 1) (n := 20) (k0 := 4) (pc' := 31) dX6_plane_28 rfl rfl (Nat.le_of_ble_eq_true rfl) (Nat.le_of_ble_eq_true rfl) rfl mw_144 rfl ?_
      refine e_bipush (v := 32) (pc' := 33) (by decide) dX6_plane_31 rfl ?_
      refine e_icmp_lt (tgt := 41) (pc' := 36) dX6_plane_33 (by decide) rfl h (fun h => ?_) (fun h => ?_)
      · refine e_aload_n (pc' := 42) (i := 0) rfl rfl dX6_plane_41 rfl ?_
        obtain ⟨I6, A7, L8, hF5, h⟩ := g_b1_e h
        refine e_callV_v (pc' := 45) dX6_plane_42 rfl mw_405 mv_X6_leaveState rfl (Nat.le_of_ble_eq_true rfl) (Nat.le_of_ble_eq_true rfl) rfl (Nat.le_of_ble_eq_true rfl) (Nat.le_of_ble_eq_true rfl) rfl (c_X6_leaveState hF5) rfl ?_
        refine e_aload_n (pc' := 46) (i := 0) rfl rfl dX6_plane_45 rfl ?_
        refine e_getR (a := 0) (b := 1) (k0 := 0) (pc' := 49) dX6_plane_46 rfl rfl (Nat.le_of_ble_eq_true rfl) (Nat.le_of_ble_eq_true rfl) rfl mw_335 rfl ?_
        refine e_iload_n (pc' := 50) (i := 1) rfl rfl dX6_plane_49 rfl ?_
        refine e_iload_n (pc' := 51) (i := 2) rfl rfl dX6_plane_50 rfl ?_
        refine e_iload_n (pc' := 52) (i := 3) rfl rfl dX6_plane_51 rfl ?_
        refine e_iload (pc' := 54) (i := 4) rfl dX6_plane_52 rfl ?_
        obtain ⟨I10, A11, L12, hF9, h⟩ := g_b1_e h
        refine e_callVN_v (pc' := 57) dX6_plane_54 rfl mw_427 mv_X2_put rfl (Nat.le_of_ble_eq_true rfl) (Nat.le_of_ble_eq_true rfl) rfl (Nat.le_of_ble_eq_true rfl) (Nat.le_of_ble_eq_true rfl) rfl (c_X2_put_1 _ _ _ _ hF9) rfl ?_
        refine e_aload_n (pc' := 58) (i := 0) rfl rfl dX6_plane_57 rfl ?_
        refine e_getR (a := 0) (b := 1) (k0 := 0) (pc' := 61) dX6_plane_58 rfl rfl (Nat.le_of_ble_eq_true rfl) (Nat.le_of_ble_eq_true rfl) rfl mw_335 rfl ?_
        refine e_getIN (a := 1) (n := 20) (k0 := 4) (pc' := 64) dX6_plane_61 rfl rfl (Nat.le_of_ble_eq_true rfl) (Nat.le_of_ble_eq_true rfl) rfl mw_144 rfl ?_
        refine e_iconst (v := 1) (pc' := 65) (by decide) dX6_plane_64 rfl ?_
        refine e_isub (pc' := 66) dX6_plane_65 rfl ?_
        obtain ⟨rfl, rfl, rfl, rfl⟩ := g_re4 h
        exact e_iret dX6_plane_66
      · refine e_aload_n (pc' := 37) (i := 0) rfl rfl dX6_plane_36 rfl ?_
        obtain ⟨v17, I14, A15, L16, hF13, h⟩ := g_b2_e h
        refine e_callV_i (pc' := 40) dX6_plane_37 rfl mw_401 mv_X6_refuseFull rfl (Nat.le_of_ble_eq_true rfl) (Nat.le_of_ble_eq_true rfl) rfl (Nat.le_of_ble_eq_true rfl) (Nat.le_of_ble_eq_true rfl) rfl (c_X6_refuseFull hF13) rfl ?_
        obtain ⟨rfl, rfl, rfl, rfl⟩ := g_re4 h
        exact e_iret dX6_plane_40
    · exact e_weak (lc' := [some (.ref 0), none, none, none, none]) (gle_s (gle_n (gle_n (gle_n (gle_n gle_0))))) (w_X6_plane_p17  _ _ _ _ h)
set_option maxHeartbeats 4000000 in
set_option maxRecDepth 100000 in
theorem c_X6_isTurnSet (a0 : Int32) {I : Nat → Int32} {A : Nat → Nat → Int32} {L : Nat → Int64} {t : Int32} (h : f_X6_isTurnSet I A L a0 = some t) : GM 70 yX6_isTurnSet cX6_isTurnSet 1 (some .boolean) 0 [.int a0] I A L (some (.int t), (I, A, L)) := by
  refine gm_of (n := 0) (lc := [some (.int a0)]) (by decide +kernel) rfl (fun _ => Nat.le_of_ble_eq_true rfl) ?_
  change Ev 70 RX6 cX6_isTurnSet 1 (some .boolean) 0 0 [some (.int a0)] [] I A L _
  unfold f_X6_isTurnSet at h
  refine e_iload_n (pc' := 1) (i := 0) rfl rfl dX6_isTurnSet_0 rfl ?_
  refine e_if_lt (tgt := 14) (pc' := 4) dX6_isTurnSet_1 (by decide) rfl h (fun h => ?_) (fun h => ?_)
  · refine e_iconst (v := 0) (pc' := 15) (by decide) dX6_isTurnSet_14 rfl ?_
    obtain rfl := g_re1 h
    exact e_zret dX6_isTurnSet_15 (by decide)
  · refine e_iload_n (pc' := 5) (i := 0) rfl rfl dX6_isTurnSet_4 rfl ?_
    refine e_bipush (v := 63) (pc' := 7) (by decide) dX6_isTurnSet_5 rfl ?_
    refine e_icmp_gt (tgt := 14) (pc' := 10) dX6_isTurnSet_7 (by decide) rfl h (fun h => ?_) (fun h => ?_)
    · refine e_iconst (v := 0) (pc' := 15) (by decide) dX6_isTurnSet_14 rfl ?_
      obtain rfl := g_re1 h
      exact e_zret dX6_isTurnSet_15 (by decide)
    · refine e_iconst (v := 1) (pc' := 11) (by decide) dX6_isTurnSet_10 rfl ?_
      refine e_goto (tgt := 15) dX6_isTurnSet_11 (by decide) ?_
      obtain rfl := g_re1 h
      exact e_zret dX6_isTurnSet_15 (by decide)
set_option maxHeartbeats 4000000 in
set_option maxRecDepth 100000 in
theorem w_X0_putInOrder_p4  : ∀ (n : Nat) (x1 : Int32) (x2 : Int32) (I : Nat → Int32) (A : Nat → Nat → Int32) (L : Nat → Int64) (t : gS), f_X0_putInOrder_p4 n x1 x2 I A L = some t → Ev 70 RX0 cX0_putInOrder 3 none 0 4 [some (.ref 54), some (.int x1), some (.int x2)] [] I A L (none, t) := by
  intro n
  induction n with
  | zero =>
    intro x1 x2 I A L t h
    cases h
  | succ n ih =>
    intro x1 x2 I A L t h
    rw [f_X0_putInOrder_p4] at h
    refine e_iload_n (pc' := 5) (i := 2) rfl rfl dX0_putInOrder_4 rfl ?_
    refine e_sipush (v := 667) (pc' := 8) (by decide) dX0_putInOrder_5 rfl ?_
    refine e_icmp_ge (tgt := 44) (pc' := 11) dX0_putInOrder_8 (by decide) rfl h (fun h => ?_) (fun h => ?_)
    · obtain rfl := g_re1 h
      exact e_vret dX0_putInOrder_44
    · refine e_iload_n (pc' := 12) (i := 1) rfl rfl dX0_putInOrder_11 rfl ?_
      refine e_aload_n (pc' := 13) (i := 0) rfl rfl dX0_putInOrder_12 rfl ?_
      refine e_getI (a := 54) (n := 866) (k0 := 2) (pc' := 16) dX0_putInOrder_13 rfl rfl (Nat.le_of_ble_eq_true rfl) (Nat.le_of_ble_eq_true rfl) rfl mw_278 rfl ?_
      refine e_icmp_ge (tgt := 44) (pc' := 19) dX0_putInOrder_16 (by decide) rfl h (fun h => ?_) (fun h => ?_)
      · obtain rfl := g_re1 h
        exact e_vret dX0_putInOrder_44
      · refine e_aload_n (pc' := 20) (i := 0) rfl rfl dX0_putInOrder_19 rfl ?_
        refine e_getR (a := 54) (b := 55) (k0 := 0) (pc' := 23) dX0_putInOrder_20 rfl rfl (Nat.le_of_ble_eq_true rfl) (Nat.le_of_ble_eq_true rfl) rfl mw_274 rfl ?_
        refine e_iload_n (pc' := 24) (i := 2) rfl rfl dX0_putInOrder_23 rfl ?_
        refine e_bald (n := 667) (pc' := 25) dX0_putInOrder_24 rfl rfl (Nat.le_of_ble_eq_true rfl) h (fun h => ?_)
        refine e_if_eq (tgt := 38) (pc' := 28) dX0_putInOrder_25 (by decide) rfl h (fun h => ?_) (fun h => ?_)
        · refine e_iinc (pc' := 41) (v := (x2 + 1)) (lc' := [some (.ref 54), some (.int x1), some (.int (x2 + 1))]) dX0_putInOrder_38 rfl rfl rfl (Nat.le_of_ble_eq_true rfl) rfl rfl ?_
          refine e_goto (tgt := 4) dX0_putInOrder_41 (by decide) ?_
          exact e_weak (lc' := [some (.ref 54), some (.int x1), some (.int (x2 + 1))]) (gle_s (gle_s (gle_s gle_0))) (ih _ _ _ _ _ _ h)
        · refine e_aload_n (pc' := 29) (i := 0) rfl rfl dX0_putInOrder_28 rfl ?_
          refine e_getR (a := 54) (b := 56) (k0 := 1) (pc' := 32) dX0_putInOrder_29 rfl rfl (Nat.le_of_ble_eq_true rfl) (Nat.le_of_ble_eq_true rfl) rfl mw_275 rfl ?_
          refine e_iload_n (pc' := 33) (i := 1) rfl rfl dX0_putInOrder_32 rfl ?_
          refine e_iload_n (pc' := 34) (i := 2) rfl rfl dX0_putInOrder_33 rfl ?_
          refine e_iast (n := 48) (pc' := 35) dX0_putInOrder_34 rfl rfl (Nat.le_of_ble_eq_true rfl) h (fun h => ?_)
          refine e_ltA h (fun A1 h => ?_)
          refine e_iinc (pc' := 38) (v := (x1 + 1)) (lc' := [some (.ref 54), some (.int (x1 + 1)), some (.int x2)]) dX0_putInOrder_35 rfl rfl rfl (Nat.le_of_ble_eq_true rfl) rfl rfl ?_
          refine e_iinc (pc' := 41) (v := (x2 + 1)) (lc' := [some (.ref 54), some (.int (x1 + 1)), some (.int (x2 + 1))]) dX0_putInOrder_38 rfl rfl rfl (Nat.le_of_ble_eq_true rfl) rfl rfl ?_
          refine e_goto (tgt := 4) dX0_putInOrder_41 (by decide) ?_
          exact e_weak (lc' := [some (.ref 54), some (.int (x1 + 1)), some (.int (x2 + 1))]) (gle_s (gle_s (gle_s gle_0))) (ih _ _ _ _ _ _ h)
set_option maxHeartbeats 4000000 in
set_option maxRecDepth 100000 in
theorem c_X0_putInOrder  {I : Nat → Int32} {A : Nat → Nat → Int32} {L : Nat → Int64} {I' : Nat → Int32} {A' : Nat → Nat → Int32} {L' : Nat → Int64} (h : f_X0_putInOrder   I A L = some (I', A', L')) : GM 70 yX0_putInOrder cX0_putInOrder 3 none 0 [.ref 54] I A L (none, (I', A', L')) := by
  refine gm_of (n := 2) (lc := [some (.ref 54), none, none]) (by decide +kernel) rfl (fun _ => Nat.le_of_ble_eq_true rfl) ?_
  change Ev 70 RX0 cX0_putInOrder 3 none 0 0 [some (.ref 54), none, none] [] I A L _
  unfold f_X0_putInOrder at h
  refine e_iconst (v := 0) (pc' := 1) (by decide) dX0_putInOrder_0 rfl ?_
  refine e_istore_n (pc' := 2) (i := 1) (lc' := [some (.ref 54), some (.int 0), none]) rfl dX0_putInOrder_1 rfl (Nat.le_of_ble_eq_true rfl) rfl rfl ?_
  refine e_iconst (v := 0) (pc' := 3) (by decide) dX0_putInOrder_2 rfl ?_
  refine e_istore_n (pc' := 4) (i := 2) (lc' := [some (.ref 54), some (.int 0), some (.int 0)]) rfl dX0_putInOrder_3 rfl (Nat.le_of_ble_eq_true rfl) rfl rfl ?_
  exact e_weak (lc' := [some (.ref 54), some (.int 0), some (.int 0)]) (gle_s (gle_s (gle_s gle_0))) (w_X0_putInOrder_p4  _ _ _ _ _ _ _ h)
set_option maxHeartbeats 4000000 in
set_option maxRecDepth 100000 in
theorem c_X6_turned (a0 : Int32) (a1 : Int32) (a2 : Int32) (a3 : Int32) (a4 : Int32) {I : Nat → Int32} {A : Nat → Nat → Int32} {L : Nat → Int64} {t : Int32} (h : f_X6_turned I A L a0 a1 a2 a3 a4 = some t) : GM 70 yX6_turned cX6_turned 8 (some .int) 0 [.int a0, .int a1, .int a2, .int a3, .int a4] I A L (some (.int t), (I, A, L)) := by
  refine gm_of (n := 3) (lc := [some (.int a0), some (.int a1), some (.int a2), some (.int a3), some (.int a4), none, none, none]) (by decide +kernel) rfl (fun _ => Nat.le_of_ble_eq_true rfl) ?_
  change Ev 70 RX6 cX6_turned 8 (some .int) 0 0 [some (.int a0), some (.int a1), some (.int a2), some (.int a3), some (.int a4), none, none, none] [] I A L _
  unfold f_X6_turned at h
  refine e_iconst (v := 3) (pc' := 1) (by decide) dX6_turned_0 rfl ?_
  refine e_iload_n (pc' := 2) (i := 0) rfl rfl dX6_turned_1 rfl ?_
  refine e_imul (pc' := 3) dX6_turned_2 rfl ?_
  refine e_iload_n (pc' := 4) (i := 1) rfl rfl dX6_turned_3 rfl ?_
  refine e_iadd (pc' := 5) dX6_turned_4 rfl ?_
  refine e_lt h (fun v1 h => ?_)
  refine e_istore (pc' := 7) (i := 5) (lc' := [some (.int a0), some (.int a1), some (.int a2), some (.int a3), some (.int a4), some (.int v1), none, none]) dX6_turned_5 rfl (Nat.le_of_ble_eq_true rfl) rfl rfl ?_
  refine e_iload (pc' := 9) (i := 5) rfl dX6_turned_7 rfl ?_
  refine e_if_lt (tgt := 21) (pc' := 12) dX6_turned_9 (by decide) rfl h (fun h => ?_) (fun h => ?_)
  · refine e_iconst (v := 0) (pc' := 22) (by decide) dX6_turned_21 rfl ?_
    obtain rfl := g_re1 h
    exact e_iret dX6_turned_22
  · refine e_iload (pc' := 14) (i := 5) rfl dX6_turned_12 rfl ?_
    refine e_getsF (pc' := 17) dX6_turned_14 rfl mw_453 ?_
    refine e_tlen (pc' := 18) dX6_turned_17 rfl ?_
    refine e_icmp_lt (tgt := 23) (pc' := 21) dX6_turned_18 (by decide) rfl h (fun h => ?_) (fun h => ?_)
    · refine e_getsF (pc' := 26) dX6_turned_23 rfl mw_453 ?_
      refine e_iload (pc' := 28) (i := 5) rfl dX6_turned_26 rfl ?_
      refine e_tfld (pc' := 29) dX6_turned_28 rfl h (fun h => ?_)
      refine e_lt h (fun v2 h => ?_)
      refine e_istore (pc' := 31) (i := 6) (lc' := [some (.int a0), some (.int a1), some (.int a2), some (.int a3), some (.int a4), some (.int v1), some (.int v2), none]) dX6_turned_29 rfl (Nat.le_of_ble_eq_true rfl) rfl rfl ?_
      refine e_iload (pc' := 33) (i := 6) rfl dX6_turned_31 rfl ?_
      refine e_if_ne (tgt := 40) (pc' := 36) dX6_turned_33 (by decide) rfl h (fun h => ?_) (fun h => ?_)
      · refine e_iload (pc' := 42) (i := 6) rfl dX6_turned_40 rfl ?_
        refine e_iconst (v := 1) (pc' := 43) (by decide) dX6_turned_42 rfl ?_
        refine e_icmp_ne (tgt := 50) (pc' := 46) dX6_turned_43 (by decide) rfl h (fun h => ?_) (fun h => ?_)
        · refine e_iload (pc' := 52) (i := 4) rfl dX6_turned_50 rfl ?_
          refine e_istore (pc' := 54) (i := 7) (lc' := [some (.int a0), some (.int a1), some (.int a2), some (.int a3), some (.int a4), some (.int v1), some (.int v2), some (.int a4)]) dX6_turned_52 rfl (Nat.le_of_ble_eq_true rfl) rfl rfl ?_
          refine e_getsS (pc' := 57) dX6_turned_54 rfl mw_455 ?_
          refine e_iload (pc' := 59) (i := 5) rfl dX6_turned_57 rfl ?_
          refine e_tsld (pc' := 60) dX6_turned_59 rfl h (fun h => ?_)
          refine e_iload (pc' := 62) (i := 7) rfl dX6_turned_60 rfl ?_
          refine e_imul (pc' := 63) dX6_turned_62 rfl ?_
          obtain rfl := g_re1 h
          exact e_iret dX6_turned_63
        · refine e_iload_n (pc' := 47) (i := 3) rfl rfl dX6_turned_46 rfl ?_
          refine e_goto (tgt := 52) dX6_turned_47 (by decide) ?_
          refine e_istore (pc' := 54) (i := 7) (lc' := [some (.int a0), some (.int a1), some (.int a2), some (.int a3), some (.int a4), some (.int v1), some (.int v2), some (.int a3)]) dX6_turned_52 rfl (Nat.le_of_ble_eq_true rfl) rfl rfl ?_
          refine e_getsS (pc' := 57) dX6_turned_54 rfl mw_455 ?_
          refine e_iload (pc' := 59) (i := 5) rfl dX6_turned_57 rfl ?_
          refine e_tsld (pc' := 60) dX6_turned_59 rfl h (fun h => ?_)
          refine e_iload (pc' := 62) (i := 7) rfl dX6_turned_60 rfl ?_
          refine e_imul (pc' := 63) dX6_turned_62 rfl ?_
          obtain rfl := g_re1 h
          exact e_iret dX6_turned_63
      · refine e_iload_n (pc' := 37) (i := 2) rfl rfl dX6_turned_36 rfl ?_
        refine e_goto (tgt := 52) dX6_turned_37 (by decide) ?_
        refine e_istore (pc' := 54) (i := 7) (lc' := [some (.int a0), some (.int a1), some (.int a2), some (.int a3), some (.int a4), some (.int v1), some (.int v2), some (.int a2)]) dX6_turned_52 rfl (Nat.le_of_ble_eq_true rfl) rfl rfl ?_
        refine e_getsS (pc' := 57) dX6_turned_54 rfl mw_455 ?_
        refine e_iload (pc' := 59) (i := 5) rfl dX6_turned_57 rfl ?_
        refine e_tsld (pc' := 60) dX6_turned_59 rfl h (fun h => ?_)
        refine e_iload (pc' := 62) (i := 7) rfl dX6_turned_60 rfl ?_
        refine e_imul (pc' := 63) dX6_turned_62 rfl ?_
        obtain rfl := g_re1 h
        exact e_iret dX6_turned_63
    · refine e_iconst (v := 0) (pc' := 22) (by decide) dX6_turned_21 rfl ?_
      obtain rfl := g_re1 h
      exact e_iret dX6_turned_22
set_option maxHeartbeats 4000000 in
set_option maxRecDepth 100000 in
theorem c_X0_note (a0 : Int32) (a1 : Int32) (a2 : Int32) {I : Nat → Int32} {A : Nat → Nat → Int32} {L : Nat → Int64} {I' : Nat → Int32} {A' : Nat → Nat → Int32} {L' : Nat → Int64} (h : f_X0_note  a0 a1 a2 I A L = some (I', A', L')) : GM 70 yX0_note cX0_note 5 none 0 [.ref 54, .int a0, .int a1, .int a2] I A L (none, (I', A', L')) := by
  refine gm_of (n := 1) (lc := [some (.ref 54), some (.int a0), some (.int a1), some (.int a2), none]) (by decide +kernel) rfl (fun _ => Nat.le_of_ble_eq_true rfl) ?_
  change Ev 70 RX0 cX0_note 5 none 0 0 [some (.ref 54), some (.int a0), some (.int a1), some (.int a2), none] [] I A L _
  unfold f_X0_note at h
  refine e_bipush (v := 100) (pc' := 2) (by decide) dX0_note_0 rfl ?_
  refine e_iload_n (pc' := 3) (i := 1) rfl rfl dX0_note_2 rfl ?_
  refine e_iconst (v := 3) (pc' := 4) (by decide) dX0_note_3 rfl ?_
  refine e_iadd (pc' := 5) dX0_note_4 rfl ?_
  refine e_imul (pc' := 6) dX0_note_5 rfl ?_
  refine e_bipush (v := 10) (pc' := 8) (by decide) dX0_note_6 rfl ?_
  refine e_iload_n (pc' := 9) (i := 2) rfl rfl dX0_note_8 rfl ?_
  refine e_iconst (v := 3) (pc' := 10) (by decide) dX0_note_9 rfl ?_
  refine e_iadd (pc' := 11) dX0_note_10 rfl ?_
  refine e_imul (pc' := 12) dX0_note_11 rfl ?_
  refine e_iadd (pc' := 13) dX0_note_12 rfl ?_
  refine e_iload_n (pc' := 14) (i := 3) rfl rfl dX0_note_13 rfl ?_
  refine e_iadd (pc' := 15) dX0_note_14 rfl ?_
  refine e_iconst (v := 3) (pc' := 16) (by decide) dX0_note_15 rfl ?_
  refine e_iadd (pc' := 17) dX0_note_16 rfl ?_
  refine e_lt h (fun v1 h => ?_)
  refine e_istore (pc' := 19) (i := 4) (lc' := [some (.ref 54), some (.int a0), some (.int a1), some (.int a2), some (.int v1)]) dX0_note_17 rfl (Nat.le_of_ble_eq_true rfl) rfl rfl ?_
  refine e_iload (pc' := 21) (i := 4) rfl dX0_note_19 rfl ?_
  refine e_if_lt (tgt := 80) (pc' := 24) dX0_note_21 (by decide) rfl h (fun h => ?_) (fun h => ?_)
  · obtain ⟨rfl, rfl, rfl⟩ := g_re3 h
    exact e_vret dX0_note_80
  · refine e_iload (pc' := 26) (i := 4) rfl dX0_note_24 rfl ?_
    refine e_sipush (v := 667) (pc' := 29) (by decide) dX0_note_26 rfl ?_
    refine e_icmp_ge (tgt := 80) (pc' := 32) dX0_note_29 (by decide) rfl h (fun h => ?_) (fun h => ?_)
    · obtain ⟨rfl, rfl, rfl⟩ := g_re3 h
      exact e_vret dX0_note_80
    · refine e_aload_n (pc' := 33) (i := 0) rfl rfl dX0_note_32 rfl ?_
      refine e_getR (a := 54) (b := 55) (k0 := 0) (pc' := 36) dX0_note_33 rfl rfl (Nat.le_of_ble_eq_true rfl) (Nat.le_of_ble_eq_true rfl) rfl mw_274 rfl ?_
      refine e_iload (pc' := 38) (i := 4) rfl dX0_note_36 rfl ?_
      refine e_bald (n := 667) (pc' := 39) dX0_note_38 rfl rfl (Nat.le_of_ble_eq_true rfl) h (fun h => ?_)
      refine e_if_ne (tgt := 80) (pc' := 42) dX0_note_39 (by decide) rfl h (fun h => ?_) (fun h => ?_)
      · obtain ⟨rfl, rfl, rfl⟩ := g_re3 h
        exact e_vret dX0_note_80
      · refine e_aload_n (pc' := 43) (i := 0) rfl rfl dX0_note_42 rfl ?_
        refine e_getI (a := 54) (n := 866) (k0 := 2) (pc' := 46) dX0_note_43 rfl rfl (Nat.le_of_ble_eq_true rfl) (Nat.le_of_ble_eq_true rfl) rfl mw_278 rfl ?_
        refine e_bipush (v := 48) (pc' := 48) (by decide) dX0_note_46 rfl ?_
        refine e_icmp_ge (tgt := 80) (pc' := 51) dX0_note_48 (by decide) rfl h (fun h => ?_) (fun h => ?_)
        · obtain ⟨rfl, rfl, rfl⟩ := g_re3 h
          exact e_vret dX0_note_80
        · refine e_aload_n (pc' := 52) (i := 0) rfl rfl dX0_note_51 rfl ?_
          refine e_getR (a := 54) (b := 55) (k0 := 0) (pc' := 55) dX0_note_52 rfl rfl (Nat.le_of_ble_eq_true rfl) (Nat.le_of_ble_eq_true rfl) rfl mw_274 rfl ?_
          refine e_iload (pc' := 57) (i := 4) rfl dX0_note_55 rfl ?_
          refine e_iconst (v := 1) (pc' := 58) (by decide) dX0_note_57 rfl ?_
          refine e_bast (n := 667) (pc' := 59) dX0_note_58 rfl rfl (Nat.le_of_ble_eq_true rfl) h (fun h => ?_)
          refine e_ltA h (fun A2 h => ?_)
          refine e_aload_n (pc' := 60) (i := 0) rfl rfl dX0_note_59 rfl ?_
          refine e_getR (a := 54) (b := 56) (k0 := 1) (pc' := 63) dX0_note_60 rfl rfl (Nat.le_of_ble_eq_true rfl) (Nat.le_of_ble_eq_true rfl) rfl mw_275 rfl ?_
          refine e_aload_n (pc' := 64) (i := 0) rfl rfl dX0_note_63 rfl ?_
          refine e_getI (a := 54) (n := 866) (k0 := 2) (pc' := 67) dX0_note_64 rfl rfl (Nat.le_of_ble_eq_true rfl) (Nat.le_of_ble_eq_true rfl) rfl mw_278 rfl ?_
          refine e_iload (pc' := 69) (i := 4) rfl dX0_note_67 rfl ?_
          refine e_iast (n := 48) (pc' := 70) dX0_note_69 rfl rfl (Nat.le_of_ble_eq_true rfl) h (fun h => ?_)
          refine e_ltA h (fun A3 h => ?_)
          refine e_aload_n (pc' := 71) (i := 0) rfl rfl dX0_note_70 rfl ?_
          refine e_dup (pc' := 72) rfl dX0_note_71 rfl ?_
          refine e_getI (a := 54) (n := 866) (k0 := 2) (pc' := 75) dX0_note_72 rfl rfl (Nat.le_of_ble_eq_true rfl) (Nat.le_of_ble_eq_true rfl) rfl mw_278 rfl ?_
          refine e_iconst (v := 1) (pc' := 76) (by decide) dX0_note_75 rfl ?_
          refine e_iadd (pc' := 77) dX0_note_76 rfl ?_
          refine e_putI (a := 54) (n := 866) (k0 := 2) (pc' := 80) dX0_note_77 rfl rfl (Nat.le_of_ble_eq_true rfl) (Nat.le_of_ble_eq_true rfl) rfl mw_278 rfl rfl g_pI rfl rfl ?_
          refine e_ltI h (fun I4 h => ?_)
          obtain ⟨rfl, rfl, rfl⟩ := g_re3 h
          exact e_vret dX0_note_80
