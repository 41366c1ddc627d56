set_option maxHeartbeats 4000000 in
set_option maxRecDepth 100000 in
theorem w_X7_isStaying_p4  : ∀ (n : Nat) (x1 : Int32) (x2 : Int32) (x3 : Int32) (I : Nat → Int32) (A : Nat → Nat → Int32) (L : Nat → Int64) (t : (Int32 × gS)), f_X7_isStaying_p4 n x1 x2 x3 I A L = some t → Ev 70 RX7 cX7_isStaying 4 (some .boolean) 1 4 [some (.ref 59), some (.int x1), some (.int x2), some (.int x3)] [] I A L (some (.int t.1), t.2) := by
  intro n
  induction n with
  | zero =>
    intro x1 x2 x3 I A L t h
    cases h
  | succ n ih =>
    intro x1 x2 x3 I A L t h
    rw [f_X7_isStaying_p4] at h
    refine e_iload_n (pc' := 5) (i := 3) rfl rfl dX7_isStaying_4 rfl ?_
    refine e_aload_n (pc' := 6) (i := 0) rfl rfl dX7_isStaying_5 rfl ?_
    refine e_getI (a := 59) (n := 955) (k0 := 11) (pc' := 9) dX7_isStaying_6 rfl rfl (Nat.le_of_ble_eq_true rfl) (Nat.le_of_ble_eq_true rfl) rfl mw_805 rfl ?_
    refine e_icmp_ge (tgt := 96) (pc' := 12) dX7_isStaying_9 (by decide) rfl h (fun h => ?_) (fun h => ?_)
    · refine e_iload_n (pc' := 97) (i := 2) rfl rfl dX7_isStaying_96 rfl ?_
      obtain ⟨hz1, h⟩ := g_z_e h
      obtain rfl := g_re1 h
      exact e_zret dX7_isStaying_97 hz1
    · refine e_aload_n (pc' := 13) (i := 0) rfl rfl dX7_isStaying_12 rfl ?_
      refine e_iload_n (pc' := 14) (i := 1) rfl rfl dX7_isStaying_13 rfl ?_
      refine e_aload_n (pc' := 15) (i := 0) rfl rfl dX7_isStaying_14 rfl ?_
      refine e_getR (a := 59) (b := 65) (k0 := 10) (pc' := 18) dX7_isStaying_15 rfl rfl (Nat.le_of_ble_eq_true rfl) (Nat.le_of_ble_eq_true rfl) rfl mw_804 rfl ?_
      refine e_iconst (v := 5) (pc' := 19) (by decide) dX7_isStaying_18 rfl ?_
      refine e_iload_n (pc' := 20) (i := 3) rfl rfl dX7_isStaying_19 rfl ?_
      refine e_imul (pc' := 21) dX7_isStaying_20 rfl ?_
      refine e_iald (n := 320) (pc' := 22) dX7_isStaying_21 rfl rfl (Nat.le_of_ble_eq_true rfl) h (fun h => ?_)
      refine e_aload_n (pc' := 23) (i := 0) rfl rfl dX7_isStaying_22 rfl ?_
      refine e_getR (a := 59) (b := 65) (k0 := 10) (pc' := 26) dX7_isStaying_23 rfl rfl (Nat.le_of_ble_eq_true rfl) (Nat.le_of_ble_eq_true rfl) rfl mw_804 rfl ?_
      refine e_iconst (v := 5) (pc' := 27) (by decide) dX7_isStaying_26 rfl ?_
      refine e_iload_n (pc' := 28) (i := 3) rfl rfl dX7_isStaying_27 rfl ?_
      refine e_imul (pc' := 29) dX7_isStaying_28 rfl ?_
      refine e_iconst (v := 1) (pc' := 30) (by decide) dX7_isStaying_29 rfl ?_
      refine e_iadd (pc' := 31) dX7_isStaying_30 rfl ?_
      refine e_iald (n := 320) (pc' := 32) dX7_isStaying_31 rfl rfl (Nat.le_of_ble_eq_true rfl) h (fun h => ?_)
      refine e_aload_n (pc' := 33) (i := 0) rfl rfl dX7_isStaying_32 rfl ?_
      refine e_getR (a := 59) (b := 65) (k0 := 10) (pc' := 36) dX7_isStaying_33 rfl rfl (Nat.le_of_ble_eq_true rfl) (Nat.le_of_ble_eq_true rfl) rfl mw_804 rfl ?_
      refine e_iconst (v := 5) (pc' := 37) (by decide) dX7_isStaying_36 rfl ?_
      refine e_iload_n (pc' := 38) (i := 3) rfl rfl dX7_isStaying_37 rfl ?_
      refine e_imul (pc' := 39) dX7_isStaying_38 rfl ?_
      refine e_iconst (v := 2) (pc' := 40) (by decide) dX7_isStaying_39 rfl ?_
      refine e_iadd (pc' := 41) dX7_isStaying_40 rfl ?_
      refine e_iald (n := 320) (pc' := 42) dX7_isStaying_41 rfl rfl (Nat.le_of_ble_eq_true rfl) h (fun h => ?_)
      obtain ⟨I3, A4, L5, hF2, h⟩ := g_b1_e h
      refine e_callV_v (pc' := 45) dX7_isStaying_42 rfl mw_878 mv_X7_turns rfl (Nat.le_of_ble_eq_true rfl) (Nat.le_of_ble_eq_true rfl) rfl (Nat.le_of_ble_eq_true rfl) (Nat.le_of_ble_eq_true rfl) rfl (c_X7_turns _ _ _ _ hF2) rfl ?_
      refine e_iload_n (pc' := 46) (i := 2) rfl rfl dX7_isStaying_45 rfl ?_
      refine e_if_eq (tgt := 88) (pc' := 49) dX7_isStaying_46 (by decide) rfl h (fun h => ?_) (fun h => ?_)
      · refine e_iconst (v := 0) (pc' := 89) (by decide) dX7_isStaying_88 rfl ?_
        refine e_istore_n (pc' := 90) (i := 2) (lc' := [some (.ref 59), some (.int x1), some (.int 0), some (.int x3)]) rfl dX7_isStaying_89 rfl (Nat.le_of_ble_eq_true rfl) rfl rfl ?_
        refine e_iinc (pc' := 93) (v := (x3 + 1)) (lc' := [some (.ref 59), some (.int x1), some (.int 0), some (.int (x3 + 1))]) dX7_isStaying_90 rfl rfl rfl (Nat.le_of_ble_eq_true rfl) rfl rfl ?_
        refine e_goto (tgt := 4) dX7_isStaying_93 (by decide) ?_
        exact e_weak (lc' := [some (.ref 59), some (.int x1), some (.int 0), some (.int (x3 + 1))]) (gle_s (gle_s (gle_s (gle_s gle_0)))) (ih _ _ _ _ _ _ _ h)
      · refine e_aload_n (pc' := 50) (i := 0) rfl rfl dX7_isStaying_49 rfl ?_
        refine e_aload_n (pc' := 51) (i := 0) rfl rfl dX7_isStaying_50 rfl ?_
        refine e_getR (a := 59) (b := 69) (k0 := 15) (pc' := 54) dX7_isStaying_51 rfl rfl (Nat.le_of_ble_eq_true rfl) (Nat.le_of_ble_eq_true rfl) rfl mw_809 rfl ?_
        refine e_iconst (v := 0) (pc' := 55) (by decide) dX7_isStaying_54 rfl ?_
        refine e_iald (n := 3) (pc' := 56) dX7_isStaying_55 rfl rfl (Nat.le_of_ble_eq_true rfl) h (fun h => ?_)
        refine e_aload_n (pc' := 57) (i := 0) rfl rfl dX7_isStaying_56 rfl ?_
        refine e_getR (a := 59) (b := 69) (k0 := 15) (pc' := 60) dX7_isStaying_57 rfl rfl (Nat.le_of_ble_eq_true rfl) (Nat.le_of_ble_eq_true rfl) rfl mw_809 rfl ?_
        refine e_iconst (v := 1) (pc' := 61) (by decide) dX7_isStaying_60 rfl ?_
        refine e_iald (n := 3) (pc' := 62) dX7_isStaying_61 rfl rfl (Nat.le_of_ble_eq_true rfl) h (fun h => ?_)
        refine e_aload_n (pc' := 63) (i := 0) rfl rfl dX7_isStaying_62 rfl ?_
        refine e_getR (a := 59) (b := 69) (k0 := 15) (pc' := 66) dX7_isStaying_63 rfl rfl (Nat.le_of_ble_eq_true rfl) (Nat.le_of_ble_eq_true rfl) rfl mw_809 rfl ?_
        refine e_iconst (v := 2) (pc' := 67) (by decide) dX7_isStaying_66 rfl ?_
        refine e_iald (n := 3) (pc' := 68) dX7_isStaying_67 rfl rfl (Nat.le_of_ble_eq_true rfl) h (fun h => ?_)
        refine e_aload_n (pc' := 69) (i := 0) rfl rfl dX7_isStaying_68 rfl ?_
        refine e_getR (a := 59) (b := 65) (k0 := 10) (pc' := 72) dX7_isStaying_69 rfl rfl (Nat.le_of_ble_eq_true rfl) (Nat.le_of_ble_eq_true rfl) rfl mw_804 rfl ?_
        refine e_iconst (v := 5) (pc' := 73) (by decide) dX7_isStaying_72 rfl ?_
        refine e_iload_n (pc' := 74) (i := 3) rfl rfl dX7_isStaying_73 rfl ?_
        refine e_imul (pc' := 75) dX7_isStaying_74 rfl ?_
        refine e_iconst (v := 3) (pc' := 76) (by decide) dX7_isStaying_75 rfl ?_
        refine e_iadd (pc' := 77) dX7_isStaying_76 rfl ?_
        refine e_iald (n := 320) (pc' := 78) dX7_isStaying_77 rfl rfl (Nat.le_of_ble_eq_true rfl) h (fun h => ?_)
        obtain ⟨v7, hF6, h⟩ := g_bd_e h
        refine e_callV_i (pc' := 81) dX7_isStaying_78 rfl mw_943 mv_X7_isCorner rfl (Nat.le_of_ble_eq_true rfl) (Nat.le_of_ble_eq_true rfl) rfl (Nat.le_of_ble_eq_true rfl) (Nat.le_of_ble_eq_true rfl) rfl (c_X7_isCorner _ _ _ _ hF6) rfl ?_
        refine e_if_eq (tgt := 88) (pc' := 84) dX7_isStaying_81 (by decide) rfl h (fun h => ?_) (fun h => ?_)
        · refine e_iconst (v := 0) (pc' := 89) (by decide) dX7_isStaying_88 rfl ?_
          refine e_istore_n (pc' := 90) (i := 2) (lc' := [some (.ref 59), some (.int x1), some (.int 0), some (.int x3)]) rfl dX7_isStaying_89 rfl (Nat.le_of_ble_eq_true rfl) rfl rfl ?_
          refine e_iinc (pc' := 93) (v := (x3 + 1)) (lc' := [some (.ref 59), some (.int x1), some (.int 0), some (.int (x3 + 1))]) dX7_isStaying_90 rfl rfl rfl (Nat.le_of_ble_eq_true rfl) rfl rfl ?_
          refine e_goto (tgt := 4) dX7_isStaying_93 (by decide) ?_
          exact e_weak (lc' := [some (.ref 59), some (.int x1), some (.int 0), some (.int (x3 + 1))]) (gle_s (gle_s (gle_s (gle_s gle_0)))) (ih _ _ _ _ _ _ _ h)
        · refine e_iconst (v := 1) (pc' := 85) (by decide) dX7_isStaying_84 rfl ?_
          refine e_goto (tgt := 89) dX7_isStaying_85 (by decide) ?_
          refine e_istore_n (pc' := 90) (i := 2) (lc' := [some (.ref 59), some (.int x1), some (.int 1), some (.int x3)]) rfl dX7_isStaying_89 rfl (Nat.le_of_ble_eq_true rfl) rfl rfl ?_
          refine e_iinc (pc' := 93) (v := (x3 + 1)) (lc' := [some (.ref 59), some (.int x1), some (.int 1), some (.int (x3 + 1))]) dX7_isStaying_90 rfl rfl rfl (Nat.le_of_ble_eq_true rfl) rfl rfl ?_
          refine e_goto (tgt := 4) dX7_isStaying_93 (by decide) ?_
          exact e_weak (lc' := [some (.ref 59), some (.int x1), some (.int 1), some (.int (x3 + 1))]) (gle_s (gle_s (gle_s (gle_s gle_0)))) (ih _ _ _ _ _ _ _ h)
set_option maxHeartbeats 4000000 in
set_option maxRecDepth 100000 in
theorem c_X7_isStaying (a0 : Int32) {I : Nat → Int32} {A : Nat → Nat → Int32} {L : Nat → Int64} {t : Int32} {I' : Nat → Int32} {A' : Nat → Nat → Int32} {L' : Nat → Int64} (h : f_X7_isStaying  a0 I A L = some (t, I', A', L')) : GM 70 yX7_isStaying cX7_isStaying 4 (some .boolean) 1 [.ref 59, .int a0] I A L (some (.int t), (I', A', L')) := by
  refine gm_of (n := 2) (lc := [some (.ref 59), some (.int a0), none, none]) (by decide +kernel) rfl (fun _ => Nat.le_of_ble_eq_true rfl) ?_
  change Ev 70 RX7 cX7_isStaying 4 (some .boolean) 1 0 [some (.ref 59), some (.int a0), none, none] [] I A L _
  unfold f_X7_isStaying at h
  refine e_iconst (v := 1) (pc' := 1) (by decide) dX7_isStaying_0 rfl ?_
  refine e_istore_n (pc' := 2) (i := 2) (lc' := [some (.ref 59), some (.int a0), some (.int 1), none]) rfl dX7_isStaying_1 rfl (Nat.le_of_ble_eq_true rfl) rfl rfl ?_
  refine e_iconst (v := 0) (pc' := 3) (by decide) dX7_isStaying_2 rfl ?_
  refine e_istore_n (pc' := 4) (i := 3) (lc' := [some (.ref 59), some (.int a0), some (.int 1), some (.int 0)]) rfl dX7_isStaying_3 rfl (Nat.le_of_ble_eq_true rfl) rfl rfl ?_
  exact e_weak (lc' := [some (.ref 59), some (.int a0), some (.int 1), some (.int 0)]) (gle_s (gle_s (gle_s (gle_s gle_0)))) (w_X7_isStaying_p4  _ _ _ _ _ _ _ _ h)
set_option maxHeartbeats 4000000 in
set_option maxRecDepth 100000 in
theorem c_X7_stays (a0 : Int32) {I : Nat → Int32} {A : Nat → Nat → Int32} {L : Nat → Int64} {t : Int32} {I' : Nat → Int32} {A' : Nat → Nat → Int32} {L' : Nat → Int64} (h : f_X7_stays  a0 I A L = some (t, I', A', L')) : GM 70 yX7_stays cX7_stays 2 (some .int) 4 [.ref 59, .int a0] I A L (some (.int t), (I', A', L')) := by
  refine gm_of (n := 0) (lc := [some (.ref 59), some (.int a0)]) (by decide +kernel) rfl (fun _ => Nat.le_of_ble_eq_true rfl) ?_
  change Ev 70 RX7 cX7_stays 2 (some .int) 4 0 [some (.ref 59), some (.int a0)] [] I A L _
  unfold f_X7_stays at h
  refine e_iload_n (pc' := 1) (i := 1) rfl rfl dX7_stays_0 rfl ?_
  refine e_iconst (v := 0) (pc' := 2) (by decide) dX7_stays_1 rfl ?_
  refine e_iconst (v := 5) (pc' := 3) (by decide) dX7_stays_2 rfl ?_
  obtain ⟨v2, hF1, h⟩ := g_bd_e h
  refine e_callS_i (pc' := 6) dX7_stays_3 rfl mw_851 ms_X7_in rfl (Nat.le_of_ble_eq_true rfl) (Nat.le_of_ble_eq_true rfl) (c_X7_in _ _ _ hF1) rfl ?_
  refine e_if_ne (tgt := 16) (pc' := 9) dX7_stays_6 (by decide) rfl h (fun h => ?_) (fun h => ?_)
  · refine e_aload_n (pc' := 17) (i := 0) rfl rfl dX7_stays_16 rfl ?_
    obtain ⟨I4, A5, L6, hF3, h⟩ := g_b1_e h
    refine e_callV_v (pc' := 20) dX7_stays_17 rfl mw_924 mv_X7_lays rfl (Nat.le_of_ble_eq_true rfl) (Nat.le_of_ble_eq_true rfl) rfl (Nat.le_of_ble_eq_true rfl) (Nat.le_of_ble_eq_true rfl) rfl (c_X7_lays hF3) rfl ?_
    refine e_aload_n (pc' := 21) (i := 0) rfl rfl dX7_stays_20 rfl ?_
    refine e_iload_n (pc' := 22) (i := 1) rfl rfl dX7_stays_21 rfl ?_
    obtain ⟨v11, I8, A9, L10, hF7, h⟩ := g_b2_e h
    refine e_callV_i (pc' := 25) dX7_stays_22 rfl mw_1044 mv_X7_isStaying rfl (Nat.le_of_ble_eq_true rfl) (Nat.le_of_ble_eq_true rfl) rfl (Nat.le_of_ble_eq_true rfl) (Nat.le_of_ble_eq_true rfl) rfl (c_X7_isStaying _ hF7) rfl ?_
    refine e_if_eq (tgt := 32) (pc' := 28) dX7_stays_25 (by decide) rfl h (fun h => ?_) (fun h => ?_)
    · refine e_iconst (v := 0) (pc' := 33) (by decide) dX7_stays_32 rfl ?_
      obtain ⟨rfl, rfl, rfl, rfl⟩ := g_re4 h
      exact e_iret dX7_stays_33
    · refine e_iconst (v := 1) (pc' := 29) (by decide) dX7_stays_28 rfl ?_
      refine e_goto (tgt := 33) dX7_stays_29 (by decide) ?_
      obtain ⟨rfl, rfl, rfl, rfl⟩ := g_re4 h
      exact e_iret dX7_stays_33
  · refine e_aload_n (pc' := 10) (i := 0) rfl rfl dX7_stays_9 rfl ?_
    refine e_bipush (v := (-2)) (pc' := 12) (by decide) dX7_stays_10 rfl ?_
    obtain ⟨v16, I13, A14, L15, hF12, h⟩ := g_b2_e h
    refine e_callV_i (pc' := 15) dX7_stays_12 rfl mw_854 mv_X7_refuses rfl (Nat.le_of_ble_eq_true rfl) (Nat.le_of_ble_eq_true rfl) rfl (Nat.le_of_ble_eq_true rfl) (Nat.le_of_ble_eq_true rfl) rfl (c_X7_refuses _ hF12) rfl ?_
    obtain ⟨rfl, rfl, rfl, rfl⟩ := g_re4 h
    exact e_iret dX7_stays_15
set_option maxHeartbeats 4000000 in
set_option maxRecDepth 100000 in
theorem w_X7_symmetry_p8  : ∀ (n : Nat) (x1 : Int32) (x2 : Int32) (I : Nat → Int32) (A : Nat → Nat → Int32) (L : Nat → Int64) (t : (Int32 × gS)), f_X7_symmetry_p8 n x1 x2 I A L = some t → Ev 70 RX7 cX7_symmetry 3 (some .int) 4 8 [some (.ref 59), some (.int x1), some (.int x2)] [] I A L (some (.int t.1), t.2) := by
  intro n
  induction n with
  | zero =>
    intro x1 x2 I A L t h
    cases h
  | succ n ih =>
    intro x1 x2 I A L t h
    rw [f_X7_symmetry_p8] at h
    refine e_iload_n (pc' := 9) (i := 2) rfl rfl dX7_symmetry_8 rfl ?_
    refine e_bipush (v := 6) (pc' := 11) (by decide) dX7_symmetry_9 rfl ?_
    refine e_icmp_ge (tgt := 38) (pc' := 14) dX7_symmetry_11 (by decide) rfl h (fun h => ?_) (fun h => ?_)
    · refine e_iload_n (pc' := 39) (i := 1) rfl rfl dX7_symmetry_38 rfl ?_
      obtain rfl := g_re1 h
      exact e_iret dX7_symmetry_39
    · refine e_iload_n (pc' := 15) (i := 1) rfl rfl dX7_symmetry_14 rfl ?_
      refine e_aload_n (pc' := 16) (i := 0) rfl rfl dX7_symmetry_15 rfl ?_
      refine e_iload_n (pc' := 17) (i := 2) rfl rfl dX7_symmetry_16 rfl ?_
      obtain ⟨v5, I2, A3, L4, hF1, h⟩ := g_b2_e h
      refine e_callV_i (pc' := 20) dX7_symmetry_17 rfl mw_1044 mv_X7_isStaying rfl (Nat.le_of_ble_eq_true rfl) (Nat.le_of_ble_eq_true rfl) rfl (Nat.le_of_ble_eq_true rfl) (Nat.le_of_ble_eq_true rfl) rfl (c_X7_isStaying _ hF1) rfl ?_
      refine e_if_eq (tgt := 29) (pc' := 23) dX7_symmetry_20 (by decide) rfl h (fun h => ?_) (fun h => ?_)
      · refine e_iconst (v := 0) (pc' := 30) (by decide) dX7_symmetry_29 rfl ?_
        refine e_ior (pc' := 31) dX7_symmetry_30 rfl ?_
        refine e_istore_n (pc' := 32) (i := 1) (lc' := [some (.ref 59), some (.int (x1 ||| 0)), some (.int x2)]) rfl dX7_symmetry_31 rfl (Nat.le_of_ble_eq_true rfl) rfl rfl ?_
        refine e_iinc (pc' := 35) (v := (x2 + 1)) (lc' := [some (.ref 59), some (.int (x1 ||| 0)), some (.int (x2 + 1))]) dX7_symmetry_32 rfl rfl rfl (Nat.le_of_ble_eq_true rfl) rfl rfl ?_
        refine e_goto (tgt := 8) dX7_symmetry_35 (by decide) ?_
        exact e_weak (lc' := [some (.ref 59), some (.int (x1 ||| 0)), some (.int (x2 + 1))]) (gle_s (gle_s (gle_s gle_0))) (ih _ _ _ _ _ _ h)
      · refine e_iconst (v := 1) (pc' := 24) (by decide) dX7_symmetry_23 rfl ?_
        refine e_iload_n (pc' := 25) (i := 2) rfl rfl dX7_symmetry_24 rfl ?_
        refine e_ishl (pc' := 26) dX7_symmetry_25 rfl ?_
        refine e_goto (tgt := 30) dX7_symmetry_26 (by decide) ?_
        refine e_ior (pc' := 31) dX7_symmetry_30 rfl ?_
        refine e_lt h (fun v6 h => ?_)
        refine e_istore_n (pc' := 32) (i := 1) (lc' := [some (.ref 59), some (.int v6), some (.int x2)]) rfl dX7_symmetry_31 rfl (Nat.le_of_ble_eq_true rfl) rfl rfl ?_
        refine e_iinc (pc' := 35) (v := (x2 + 1)) (lc' := [some (.ref 59), some (.int v6), some (.int (x2 + 1))]) dX7_symmetry_32 rfl rfl rfl (Nat.le_of_ble_eq_true rfl) rfl rfl ?_
        refine e_goto (tgt := 8) dX7_symmetry_35 (by decide) ?_
        exact e_weak (lc' := [some (.ref 59), some (.int v6), some (.int (x2 + 1))]) (gle_s (gle_s (gle_s gle_0))) (ih _ _ _ _ _ _ h)
set_option maxHeartbeats 4000000 in
set_option maxRecDepth 100000 in
theorem c_X7_symmetry  {I : Nat → Int32} {A : Nat → Nat → Int32} {L : Nat → Int64} {t : Int32} {I' : Nat → Int32} {A' : Nat → Nat → Int32} {L' : Nat → Int64} (h : f_X7_symmetry   I A L = some (t, I', A', L')) : GM 70 yX7_symmetry cX7_symmetry 3 (some .int) 4 [.ref 59] I A L (some (.int t), (I', A', L')) := by
  refine gm_of (n := 2) (lc := [some (.ref 59), none, none]) (by decide +kernel) rfl (fun _ => Nat.le_of_ble_eq_true rfl) ?_
  change Ev 70 RX7 cX7_symmetry 3 (some .int) 4 0 [some (.ref 59), none, none] [] I A L _
  unfold f_X7_symmetry at h
  refine e_aload_n (pc' := 1) (i := 0) rfl rfl dX7_symmetry_0 rfl ?_
  obtain ⟨I2, A3, L4, hF1, h⟩ := g_b1_e h
  refine e_callV_v (pc' := 4) dX7_symmetry_1 rfl mw_924 mv_X7_lays rfl (Nat.le_of_ble_eq_true rfl) (Nat.le_of_ble_eq_true rfl) rfl (Nat.le_of_ble_eq_true rfl) (Nat.le_of_ble_eq_true rfl) rfl (c_X7_lays hF1) rfl ?_
  refine e_iconst (v := 0) (pc' := 5) (by decide) dX7_symmetry_4 rfl ?_
  refine e_istore_n (pc' := 6) (i := 1) (lc' := [some (.ref 59), some (.int 0), none]) rfl dX7_symmetry_5 rfl (Nat.le_of_ble_eq_true rfl) rfl rfl ?_
  refine e_iconst (v := 0) (pc' := 7) (by decide) dX7_symmetry_6 rfl ?_
  refine e_istore_n (pc' := 8) (i := 2) (lc' := [some (.ref 59), some (.int 0), some (.int 0)]) rfl dX7_symmetry_7 rfl (Nat.le_of_ble_eq_true rfl) rfl rfl ?_
  exact e_weak (lc' := [some (.ref 59), some (.int 0), some (.int 0)]) (gle_s (gle_s (gle_s gle_0))) (w_X7_symmetry_p8  _ _ _ _ _ _ _ h)
set_option maxHeartbeats 4000000 in
set_option maxRecDepth 100000 in
theorem w_X7_hides_p113  (k91 : Int32 → Int32 → Int32 → Int32 → Int32 → Int32 → (Nat → Int32) → (Nat → Nat → Int32) → (Nat → Int64) → Option (Int32 × gS)) (hk91 : ∀ (x4 : Int32) (x6 : Int32) (x7 : Int32) (x8 : Int32) (x9 : Int32) (x10 : Int32) (I : Nat → Int32) (A : Nat → Nat → Int32) (L : Nat → Int64) (t : (Int32 × gS)), k91 x4 x6 x7 x8 x9 x10 I A L = some t → Ev 70 RX7 cX7_hides 11 (some .int) 4 91 [none, none, none, none, some (.int x4), none, some (.int x6), some (.int x7), some (.int x8), some (.int x9), some (.int x10)] [] I A L (some (.int t.1), t.2)) : ∀ (x4 : Int32) (x6 : Int32) (x7 : Int32) (x9 : Int32) (x10 : Int32) (s0 : Int32) (I : Nat → Int32) (A : Nat → Nat → Int32) (L : Nat → Int64) (t : (Int32 × gS)), f_X7_hides_p113 k91 x4 x6 x7 x9 x10 s0 I A L = some t → Ev 70 RX7 cX7_hides 11 (some .int) 4 113 [none, none, none, none, some (.int x4), none, some (.int x6), some (.int x7), none, some (.int x9), some (.int x10)] [.int s0] I A L (some (.int t.1), t.2) := by
  intro x4 x6 x7 x9 x10 s0 I A L t h
  unfold f_X7_hides_p113 at h
  refine e_istore (pc' := 115) (i := 8) (lc' := [none, none, none, none, some (.int x4), none, some (.int x6), some (.int x7), some (.int s0), some (.int x9), some (.int x10)]) dX7_hides_113 rfl (Nat.le_of_ble_eq_true rfl) rfl rfl ?_
  refine e_iload (pc' := 117) (i := 9) rfl dX7_hides_115 rfl ?_
  refine e_iload (pc' := 119) (i := 10) rfl dX7_hides_117 rfl ?_
  refine e_iload (pc' := 121) (i := 7) rfl dX7_hides_119 rfl ?_
  refine e_imul (pc' := 122) dX7_hides_121 rfl ?_
  refine e_iload (pc' := 124) (i := 6) rfl dX7_hides_122 rfl ?_
  refine e_icmp_ge (tgt := 131) (pc' := 127) dX7_hides_124 (by decide) rfl h (fun h => ?_) (fun h => ?_)
  · refine e_iconst (v := 0) (pc' := 132) (by decide) dX7_hides_131 rfl ?_
    refine e_iadd (pc' := 133) dX7_hides_132 rfl ?_
    refine e_istore (pc' := 135) (i := 9) (lc' := [none, none, none, none, some (.int x4), none, some (.int x6), some (.int x7), some (.int s0), some (.int (x9 + 0)), some (.int x10)]) dX7_hides_133 rfl (Nat.le_of_ble_eq_true rfl) rfl rfl ?_
    refine e_iinc (pc' := 138) (v := (x10 + (-1))) (lc' := [none, none, none, none, some (.int x4), none, some (.int x6), some (.int x7), some (.int s0), some (.int (x9 + 0)), some (.int (x10 + (-1)))]) dX7_hides_135 rfl rfl rfl (Nat.le_of_ble_eq_true rfl) rfl rfl ?_
    refine e_goto (tgt := 91) dX7_hides_138 (by decide) ?_
    exact e_weak (lc' := [none, none, none, none, some (.int x4), none, some (.int x6), some (.int x7), some (.int s0), some (.int (x9 + 0)), some (.int (x10 + (-1)))]) (gle_n (gle_n (gle_n (gle_n (gle_s (gle_n (gle_s (gle_s (gle_s (gle_s (gle_s gle_0))))))))))) (hk91 _ _ _ _ _ _ _ _ _ _ h)
  · refine e_iconst (v := 1) (pc' := 128) (by decide) dX7_hides_127 rfl ?_
    refine e_goto (tgt := 132) dX7_hides_128 (by decide) ?_
    refine e_iadd (pc' := 133) dX7_hides_132 rfl ?_
    refine e_istore (pc' := 135) (i := 9) (lc' := [none, none, none, none, some (.int x4), none, some (.int x6), some (.int x7), some (.int s0), some (.int (x9 + 1)), some (.int x10)]) dX7_hides_133 rfl (Nat.le_of_ble_eq_true rfl) rfl rfl ?_
    refine e_iinc (pc' := 138) (v := (x10 + (-1))) (lc' := [none, none, none, none, some (.int x4), none, some (.int x6), some (.int x7), some (.int s0), some (.int (x9 + 1)), some (.int (x10 + (-1)))]) dX7_hides_135 rfl rfl rfl (Nat.le_of_ble_eq_true rfl) rfl rfl ?_
    refine e_goto (tgt := 91) dX7_hides_138 (by decide) ?_
    exact e_weak (lc' := [none, none, none, none, some (.int x4), none, some (.int x6), some (.int x7), some (.int s0), some (.int (x9 + 1)), some (.int (x10 + (-1)))]) (gle_n (gle_n (gle_n (gle_n (gle_s (gle_n (gle_s (gle_s (gle_s (gle_s (gle_s gle_0))))))))))) (hk91 _ _ _ _ _ _ _ _ _ _ h)
set_option maxHeartbeats 4000000 in
set_option maxRecDepth 100000 in
theorem w_X7_hides_p91  : ∀ (n : Nat) (x4 : Int32) (x6 : Int32) (x7 : Int32) (x8 : Int32) (x9 : Int32) (x10 : Int32) (I : Nat → Int32) (A : Nat → Nat → Int32) (L : Nat → Int64) (t : (Int32 × gS)), f_X7_hides_p91 n x4 x6 x7 x8 x9 x10 I A L = some t → Ev 70 RX7 cX7_hides 11 (some .int) 4 91 [none, none, none, none, some (.int x4), none, some (.int x6), some (.int x7), some (.int x8), some (.int x9), some (.int x10)] [] I A L (some (.int t.1), t.2) := by
  intro n
  induction n with
  | zero =>
    intro x4 x6 x7 x8 x9 x10 I A L t h
    cases h
  | succ n ih =>
    intro x4 x6 x7 x8 x9 x10 I A L t h
    rw [f_X7_hides_p91] at h
    refine e_iload (pc' := 93) (i := 10) rfl dX7_hides_91 rfl ?_
    refine e_if_le (tgt := 141) (pc' := 96) dX7_hides_93 (by decide) rfl h (fun h => ?_) (fun h => ?_)
    · refine e_iload (pc' := 143) (i := 4) rfl dX7_hides_141 rfl ?_
      refine e_if_ne (tgt := 151) (pc' := 146) dX7_hides_143 (by decide) rfl h (fun h => ?_) (fun h => ?_)
      · refine e_iload (pc' := 153) (i := 9) rfl dX7_hides_151 rfl ?_
        obtain rfl := g_re1 h
        exact e_iret dX7_hides_153
      · refine e_iload (pc' := 148) (i := 8) rfl dX7_hides_146 rfl ?_
        refine e_goto (tgt := 153) dX7_hides_148 (by decide) ?_
        obtain rfl := g_re1 h
        exact e_iret dX7_hides_153
    · refine e_iload (pc' := 98) (i := 10) rfl dX7_hides_96 rfl ?_
      refine e_iload (pc' := 100) (i := 7) rfl dX7_hides_98 rfl ?_
      refine e_imul (pc' := 101) dX7_hides_100 rfl ?_
      refine e_iload (pc' := 103) (i := 6) rfl dX7_hides_101 rfl ?_
      refine e_icmp_le (tgt := 111) (pc' := 106) dX7_hides_103 (by decide) rfl h (fun h => ?_) (fun h => ?_)
      · refine e_iload (pc' := 113) (i := 8) rfl dX7_hides_111 rfl ?_
        exact e_weak (lc' := [none, none, none, none, some (.int x4), none, some (.int x6), some (.int x7), none, some (.int x9), some (.int x10)]) (gle_n (gle_n (gle_n (gle_n (gle_s (gle_n (gle_s (gle_s (gle_n (gle_s (gle_s gle_0))))))))))) (w_X7_hides_p113 _ ih _ _ _ _ _ _ _ _ _ _ h)
      · refine e_iload (pc' := 108) (i := 10) rfl dX7_hides_106 rfl ?_
        refine e_goto (tgt := 113) dX7_hides_108 (by decide) ?_
        exact e_weak (lc' := [none, none, none, none, some (.int x4), none, some (.int x6), some (.int x7), none, some (.int x9), some (.int x10)]) (gle_n (gle_n (gle_n (gle_n (gle_s (gle_n (gle_s (gle_s (gle_n (gle_s (gle_s gle_0))))))))))) (w_X7_hides_p113 _ ih _ _ _ _ _ _ _ _ _ _ h)
set_option maxHeartbeats 4000000 in
set_option maxRecDepth 100000 in
theorem w_X7_hides_p19  : ∀ (I : Nat → Int32) (A : Nat → Nat → Int32) (L : Nat → Int64) (t : (Int32 × gS)), f_X7_hides_p19 I A L = some t → Ev 70 RX7 cX7_hides 11 (some .int) 4 19 [some (.ref 59), none, none, none, none, none, none, none, none, none, none] [] I A L (some (.int t.1), t.2) := by
  intro  I A L t h
  unfold f_X7_hides_p19 at h
  refine e_aload_n (pc' := 20) (i := 0) rfl rfl dX7_hides_19 rfl ?_
  refine e_bipush (v := (-2)) (pc' := 22) (by decide) dX7_hides_20 rfl ?_
  obtain ⟨v5, I2, A3, L4, hF1, h⟩ := g_b2_e h
  refine e_callV_i (pc' := 25) dX7_hides_22 rfl mw_854 mv_X7_refuses rfl (Nat.le_of_ble_eq_true rfl) (Nat.le_of_ble_eq_true rfl) rfl (Nat.le_of_ble_eq_true rfl) (Nat.le_of_ble_eq_true rfl) rfl (c_X7_refuses _ hF1) rfl ?_
  obtain rfl := g_re1 h
  exact e_iret dX7_hides_25
set_option maxHeartbeats 4000000 in
set_option maxRecDepth 100000 in
theorem c_X7_hides (a0 : Int32) (a1 : Int32) (a2 : Int32) (a3 : Int32) {I : Nat → Int32} {A : Nat → Nat → Int32} {L : Nat → Int64} {t : Int32} {I' : Nat → Int32} {A' : Nat → Nat → Int32} {L' : Nat → Int64} (h : f_X7_hides  a0 a1 a2 a3 I A L = some (t, I', A', L')) : GM 70 yX7_hides cX7_hides 11 (some .int) 4 [.ref 59, .int a0, .int a1, .int a2, .int a3] I A L (some (.int t), (I', A', L')) := by
  refine gm_of (n := 6) (lc := [some (.ref 59), some (.int a0), some (.int a1), some (.int a2), some (.int a3), none, none, none, none, none, none]) (by decide +kernel) rfl (fun _ => Nat.le_of_ble_eq_true rfl) ?_
  change Ev 70 RX7 cX7_hides 11 (some .int) 4 0 [some (.ref 59), some (.int a0), some (.int a1), some (.int a2), some (.int a3), none, none, none, none, none, none] [] I A L _
  unfold f_X7_hides at h
  refine e_iload_n (pc' := 1) (i := 1) rfl rfl dX7_hides_0 rfl ?_
  refine e_iload_n (pc' := 2) (i := 2) rfl rfl dX7_hides_1 rfl ?_
  refine e_iload_n (pc' := 3) (i := 3) rfl rfl dX7_hides_2 rfl ?_
  obtain ⟨v2, hF1, h⟩ := g_bd_e h
  refine e_callS_i (pc' := 6) dX7_hides_3 rfl mw_848 ms_X7_isSign rfl (Nat.le_of_ble_eq_true rfl) (Nat.le_of_ble_eq_true rfl) (c_X7_isSign _ _ _ hF1) rfl ?_
  refine e_if_eq (tgt := 19) (pc' := 9) dX7_hides_6 (by decide) rfl h (fun h => ?_) (fun h => ?_)
  · exact e_weak (lc' := [some (.ref 59), none, none, none, none, none, none, none, none, none, none]) (gle_s (gle_n (gle_n (gle_n (gle_n (gle_n (gle_n (gle_n (gle_n (gle_n (gle_n gle_0))))))))))) (w_X7_hides_p19  _ _ _ _ h)
  · refine e_iload (pc' := 11) (i := 4) rfl dX7_hides_9 rfl ?_
    refine e_iconst (v := 0) (pc' := 12) (by decide) dX7_hides_11 rfl ?_
    refine e_iconst (v := 1) (pc' := 13) (by decide) dX7_hides_12 rfl ?_
    obtain ⟨v4, hF3, h⟩ := g_bd_e h
    refine e_callS_i (pc' := 16) dX7_hides_13 rfl mw_851 ms_X7_in rfl (Nat.le_of_ble_eq_true rfl) (Nat.le_of_ble_eq_true rfl) (c_X7_in _ _ _ hF3) rfl ?_
    refine e_if_ne (tgt := 26) (pc' := 19) dX7_hides_16 (by decide) rfl h (fun h => ?_) (fun h => ?_)
    · refine e_aload_n (pc' := 27) (i := 0) rfl rfl dX7_hides_26 rfl ?_
      refine e_getR (a := 59) (b := 60) (k0 := 0) (pc' := 30) dX7_hides_27 rfl rfl (Nat.le_of_ble_eq_true rfl) (Nat.le_of_ble_eq_true rfl) rfl mw_794 rfl ?_
      refine e_iconst (v := 0) (pc' := 31) (by decide) dX7_hides_30 rfl ?_
      refine e_iald (n := 129) (pc' := 32) dX7_hides_31 rfl rfl (Nat.le_of_ble_eq_true rfl) h (fun h => ?_)
      refine e_bipush (v := 32) (pc' := 34) (by decide) dX7_hides_32 rfl ?_
      refine e_icmp_ne (tgt := 44) (pc' := 37) dX7_hides_34 (by decide) rfl h (fun h => ?_) (fun h => ?_)
      · refine e_aload_n (pc' := 45) (i := 0) rfl rfl dX7_hides_44 rfl ?_
        obtain ⟨I6, A7, L8, hF5, h⟩ := g_b1_e h
        refine e_callV_v (pc' := 48) dX7_hides_45 rfl mw_924 mv_X7_lays rfl (Nat.le_of_ble_eq_true rfl) (Nat.le_of_ble_eq_true rfl) rfl (Nat.le_of_ble_eq_true rfl) (Nat.le_of_ble_eq_true rfl) rfl (c_X7_lays hF5) rfl ?_
        refine e_aload_n (pc' := 49) (i := 0) rfl rfl dX7_hides_48 rfl ?_
        refine e_iload_n (pc' := 50) (i := 1) rfl rfl dX7_hides_49 rfl ?_
        refine e_iload_n (pc' := 51) (i := 2) rfl rfl dX7_hides_50 rfl ?_
        refine e_iload_n (pc' := 52) (i := 3) rfl rfl dX7_hides_51 rfl ?_
        obtain ⟨v10, hF9, h⟩ := g_bd_e h
        refine e_callV_i (pc' := 55) dX7_hides_52 rfl mw_1032 mv_X7_farthest rfl (Nat.le_of_ble_eq_true rfl) (Nat.le_of_ble_eq_true rfl) rfl (Nat.le_of_ble_eq_true rfl) (Nat.le_of_ble_eq_true rfl) rfl (c_X7_farthest _ _ _ hF9) rfl ?_
        refine e_istore (pc' := 57) (i := 5) (lc' := [some (.ref 59), some (.int a0), some (.int a1), some (.int a2), some (.int a3), some (.int v10), none, none, none, none, none]) dX7_hides_55 rfl (Nat.le_of_ble_eq_true rfl) rfl rfl ?_
        refine e_aload_n (pc' := 58) (i := 0) rfl rfl dX7_hides_57 rfl ?_
        refine e_iload (pc' := 60) (i := 5) rfl dX7_hides_58 rfl ?_
        refine e_iload_n (pc' := 61) (i := 1) rfl rfl dX7_hides_60 rfl ?_
        refine e_iload_n (pc' := 62) (i := 2) rfl rfl dX7_hides_61 rfl ?_
        refine e_iload_n (pc' := 63) (i := 3) rfl rfl dX7_hides_62 rfl ?_
        obtain ⟨v12, hF11, h⟩ := g_bd_e h
        refine e_callV_i (pc' := 66) dX7_hides_63 rfl mw_1036 mv_X7_farOf rfl (Nat.le_of_ble_eq_true rfl) (Nat.le_of_ble_eq_true rfl) rfl (Nat.le_of_ble_eq_true rfl) (Nat.le_of_ble_eq_true rfl) rfl (c_X7_farOf _ _ _ _ hF11) rfl ?_
        refine e_istore (pc' := 68) (i := 6) (lc' := [some (.ref 59), some (.int a0), some (.int a1), some (.int a2), some (.int a3), some (.int v10), some (.int v12), none, none, none, none]) dX7_hides_66 rfl (Nat.le_of_ble_eq_true rfl) rfl rfl ?_
        refine e_aload_n (pc' := 69) (i := 0) rfl rfl dX7_hides_68 rfl ?_
        refine e_getR (a := 59) (b := 65) (k0 := 10) (pc' := 72) dX7_hides_69 rfl rfl (Nat.le_of_ble_eq_true rfl) (Nat.le_of_ble_eq_true rfl) rfl mw_804 rfl ?_
        refine e_iconst (v := 5) (pc' := 73) (by decide) dX7_hides_72 rfl ?_
        refine e_iload (pc' := 75) (i := 5) rfl dX7_hides_73 rfl ?_
        refine e_imul (pc' := 76) dX7_hides_75 rfl ?_
        refine e_iconst (v := 3) (pc' := 77) (by decide) dX7_hides_76 rfl ?_
        refine e_iadd (pc' := 78) dX7_hides_77 rfl ?_
        refine e_iald (n := 320) (pc' := 79) dX7_hides_78 rfl rfl (Nat.le_of_ble_eq_true rfl) h (fun h => ?_)
        refine e_lt h (fun v13 h => ?_)
        refine e_istore (pc' := 81) (i := 7) (lc' := [some (.ref 59), some (.int a0), some (.int a1), some (.int a2), some (.int a3), some (.int v10), some (.int v12), some (.int v13), none, none, none]) dX7_hides_79 rfl (Nat.le_of_ble_eq_true rfl) rfl rfl ?_
        refine e_iconst (v := (-1)) (pc' := 82) (by decide) dX7_hides_81 rfl ?_
        refine e_istore (pc' := 84) (i := 8) (lc' := [some (.ref 59), some (.int a0), some (.int a1), some (.int a2), some (.int a3), some (.int v10), some (.int v12), some (.int v13), some (.int (-1)), none, none]) dX7_hides_82 rfl (Nat.le_of_ble_eq_true rfl) rfl rfl ?_
        refine e_iconst (v := 0) (pc' := 85) (by decide) dX7_hides_84 rfl ?_
        refine e_istore (pc' := 87) (i := 9) (lc' := [some (.ref 59), some (.int a0), some (.int a1), some (.int a2), some (.int a3), some (.int v10), some (.int v12), some (.int v13), some (.int (-1)), some (.int 0), none]) dX7_hides_85 rfl (Nat.le_of_ble_eq_true rfl) rfl rfl ?_
        refine e_bipush (v := 60) (pc' := 89) (by decide) dX7_hides_87 rfl ?_
        refine e_istore (pc' := 91) (i := 10) (lc' := [some (.ref 59), some (.int a0), some (.int a1), some (.int a2), some (.int a3), some (.int v10), some (.int v12), some (.int v13), some (.int (-1)), some (.int 0), some (.int 60)]) dX7_hides_89 rfl (Nat.le_of_ble_eq_true rfl) rfl rfl ?_
        exact e_weak (lc' := [none, none, none, none, some (.int a3), none, some (.int v12), some (.int v13), some (.int (-1)), some (.int 0), some (.int 60)]) (gle_n (gle_n (gle_n (gle_n (gle_s (gle_n (gle_s (gle_s (gle_s (gle_s (gle_s gle_0))))))))))) (w_X7_hides_p91  _ _ _ _ _ _ _ _ _ _ _ h)
      · refine e_aload_n (pc' := 38) (i := 0) rfl rfl dX7_hides_37 rfl ?_
        refine e_bipush (v := (-4)) (pc' := 40) (by decide) dX7_hides_38 rfl ?_
        obtain ⟨v18, I15, A16, L17, hF14, h⟩ := g_b2_e h
        refine e_callV_i (pc' := 43) dX7_hides_40 rfl mw_854 mv_X7_refuses rfl (Nat.le_of_ble_eq_true rfl) (Nat.le_of_ble_eq_true rfl) rfl (Nat.le_of_ble_eq_true rfl) (Nat.le_of_ble_eq_true rfl) rfl (c_X7_refuses _ hF14) rfl ?_
        obtain ⟨rfl, rfl, rfl, rfl⟩ := g_re4 h
        exact e_iret dX7_hides_43
    · exact e_weak (lc' := [some (.ref 59), none, none, none, none, none, none, none, none, none, none]) (gle_s (gle_n (gle_n (gle_n (gle_n (gle_n (gle_n (gle_n (gle_n (gle_n (gle_n gle_0))))))))))) (w_X7_hides_p19  _ _ _ _ h)
set_option maxHeartbeats 4000000 in
set_option maxRecDepth 100000 in
theorem w_X7_restores_p2  : ∀ (n : Nat) (x1 : Int32) (I : Nat → Int32) (A : Nat → Nat → Int32) (L : Nat → Int64) (t : gS), f_X7_restores_p2 n x1 I A L = some t → Ev 70 RX7 cX7_restores 2 none 0 2 [some (.ref 59), some (.int x1)] [] I A L (none, t) := by
  intro n
  induction n with
  | zero =>
    intro x1 I A L t h
    cases h
  | succ n ih =>
    intro x1 I A L t h
    rw [f_X7_restores_p2] at h
    refine e_iload_n (pc' := 3) (i := 1) rfl rfl dX7_restores_2 rfl ?_
    refine e_sipush (v := 129) (pc' := 6) (by decide) dX7_restores_3 rfl ?_
    refine e_icmp_ge (tgt := 27) (pc' := 9) dX7_restores_6 (by decide) rfl h (fun h => ?_) (fun h => ?_)
    · obtain rfl := g_re1 h
      exact e_vret dX7_restores_27
    · refine e_aload_n (pc' := 10) (i := 0) rfl rfl dX7_restores_9 rfl ?_
      refine e_getR (a := 59) (b := 60) (k0 := 0) (pc' := 13) dX7_restores_10 rfl rfl (Nat.le_of_ble_eq_true rfl) (Nat.le_of_ble_eq_true rfl) rfl mw_794 rfl ?_
      refine e_iload_n (pc' := 14) (i := 1) rfl rfl dX7_restores_13 rfl ?_
      refine e_aload_n (pc' := 15) (i := 0) rfl rfl dX7_restores_14 rfl ?_
      refine e_getR (a := 59) (b := 62) (k0 := 3) (pc' := 18) dX7_restores_15 rfl rfl (Nat.le_of_ble_eq_true rfl) (Nat.le_of_ble_eq_true rfl) rfl mw_797 rfl ?_
      refine e_iload_n (pc' := 19) (i := 1) rfl rfl dX7_restores_18 rfl ?_
      refine e_iald (n := 129) (pc' := 20) dX7_restores_19 rfl rfl (Nat.le_of_ble_eq_true rfl) h (fun h => ?_)
      refine e_iast (n := 129) (pc' := 21) dX7_restores_20 rfl rfl (Nat.le_of_ble_eq_true rfl) h (fun h => ?_)
      refine e_ltA h (fun A1 h => ?_)
      refine e_iinc (pc' := 24) (v := (x1 + 1)) (lc' := [some (.ref 59), some (.int (x1 + 1))]) dX7_restores_21 rfl rfl rfl (Nat.le_of_ble_eq_true rfl) rfl rfl ?_
      refine e_goto (tgt := 2) dX7_restores_24 (by decide) ?_
      exact e_weak (lc' := [some (.ref 59), some (.int (x1 + 1))]) (gle_s (gle_s gle_0)) (ih _ _ _ _ _ h)
set_option maxHeartbeats 4000000 in
set_option maxRecDepth 100000 in
theorem c_X7_restores  {I : Nat → Int32} {A : Nat → Nat → Int32} {L : Nat → Int64} {I' : Nat → Int32} {A' : Nat → Nat → Int32} {L' : Nat → Int64} (h : f_X7_restores   I A L = some (I', A', L')) : GM 70 yX7_restores cX7_restores 2 none 0 [.ref 59] I A L (none, (I', A', L')) := by
  refine gm_of (n := 1) (lc := [some (.ref 59), none]) (by decide +kernel) rfl (fun _ => Nat.le_of_ble_eq_true rfl) ?_
  change Ev 70 RX7 cX7_restores 2 none 0 0 [some (.ref 59), none] [] I A L _
  unfold f_X7_restores at h
  refine e_iconst (v := 0) (pc' := 1) (by decide) dX7_restores_0 rfl ?_
  refine e_istore_n (pc' := 2) (i := 1) (lc' := [some (.ref 59), some (.int 0)]) rfl dX7_restores_1 rfl (Nat.le_of_ble_eq_true rfl) rfl rfl ?_
  exact e_weak (lc' := [some (.ref 59), some (.int 0)]) (gle_s (gle_s gle_0)) (w_X7_restores_p2  _ _ _ _ _ _ h)
set_option maxHeartbeats 4000000 in
set_option maxRecDepth 100000 in
theorem w_X7_spare_p98  (k46 : Int32 → Int32 → Int32 → Int32 → (Nat → Int32) → (Nat → Nat → Int32) → (Nat → Int64) → Option (Int32 × gS)) (hk46 : ∀ (x1 : Int32) (x2 : Int32) (x3 : Int32) (x4 : Int32) (I : Nat → Int32) (A : Nat → Nat → Int32) (L : Nat → Int64) (t : (Int32 × gS)), k46 x1 x2 x3 x4 I A L = some t → Ev 70 RX7 cX7_spare 5 (some .int) 4 46 [some (.ref 59), some (.int x1), some (.int x2), some (.int x3), some (.int x4)] [] I A L (some (.int t.1), t.2)) : ∀ (x1 : Int32) (x2 : Int32) (x4 : Int32) (s0 : Int32) (I : Nat → Int32) (A : Nat → Nat → Int32) (L : Nat → Int64) (t : (Int32 × gS)), f_X7_spare_p98 k46 x1 x2 x4 s0 I A L = some t → Ev 70 RX7 cX7_spare 5 (some .int) 4 98 [some (.ref 59), some (.int x1), some (.int x2), none, some (.int x4)] [.int s0] I A L (some (.int t.1), t.2) := by
  intro x1 x2 x4 s0 I A L t h
  unfold f_X7_spare_p98 at h
  refine e_istore_n (pc' := 99) (i := 3) (lc' := [some (.ref 59), some (.int x1), some (.int x2), some (.int s0), some (.int x4)]) rfl dX7_spare_98 rfl (Nat.le_of_ble_eq_true rfl) rfl rfl ?_
  refine e_aload_n (pc' := 100) (i := 0) rfl rfl dX7_spare_99 rfl ?_
  obtain ⟨I2, A3, L4, hF1, h⟩ := g_b1_e h
  refine e_callV_v (pc' := 103) dX7_spare_100 rfl mw_1060 mv_X7_restores rfl (Nat.le_of_ble_eq_true rfl) (Nat.le_of_ble_eq_true rfl) rfl (Nat.le_of_ble_eq_true rfl) (Nat.le_of_ble_eq_true rfl) rfl (c_X7_restores hF1) rfl ?_
  refine e_iinc (pc' := 106) (v := (x4 + 1)) (lc' := [some (.ref 59), some (.int x1), some (.int x2), some (.int s0), some (.int (x4 + 1))]) dX7_spare_103 rfl rfl rfl (Nat.le_of_ble_eq_true rfl) rfl rfl ?_
  refine e_goto (tgt := 46) dX7_spare_106 (by decide) ?_
  exact e_weak (lc' := [some (.ref 59), some (.int x1), some (.int x2), some (.int s0), some (.int (x4 + 1))]) (gle_s (gle_s (gle_s (gle_s (gle_s gle_0))))) (hk46 _ _ _ _ _ _ _ _ h)
set_option maxHeartbeats 4000000 in
set_option maxRecDepth 100000 in
theorem w_X7_spare_p81  (k46 : Int32 → Int32 → Int32 → Int32 → (Nat → Int32) → (Nat → Nat → Int32) → (Nat → Int64) → Option (Int32 × gS)) (hk46 : ∀ (x1 : Int32) (x2 : Int32) (x3 : Int32) (x4 : Int32) (I : Nat → Int32) (A : Nat → Nat → Int32) (L : Nat → Int64) (t : (Int32 × gS)), k46 x1 x2 x3 x4 I A L = some t → Ev 70 RX7 cX7_spare 5 (some .int) 4 46 [some (.ref 59), some (.int x1), some (.int x2), some (.int x3), some (.int x4)] [] I A L (some (.int t.1), t.2)) : ∀ (x1 : Int32) (x3 : Int32) (x4 : Int32) (s0 : Int32) (I : Nat → Int32) (A : Nat → Nat → Int32) (L : Nat → Int64) (t : (Int32 × gS)), f_X7_spare_p81 k46 x1 x3 x4 s0 I A L = some t → Ev 70 RX7 cX7_spare 5 (some .int) 4 81 [some (.ref 59), some (.int x1), none, some (.int x3), some (.int x4)] [.int s0] I A L (some (.int t.1), t.2) := by
  intro x1 x3 x4 s0 I A L t h
  unfold f_X7_spare_p81 at h
  refine e_istore_n (pc' := 82) (i := 2) (lc' := [some (.ref 59), some (.int x1), some (.int s0), some (.int x3), some (.int x4)]) rfl dX7_spare_81 rfl (Nat.le_of_ble_eq_true rfl) rfl rfl ?_
  refine e_aload_n (pc' := 83) (i := 0) rfl rfl dX7_spare_82 rfl ?_
  refine e_getI (a := 59) (n := 955) (k0 := 11) (pc' := 86) dX7_spare_83 rfl rfl (Nat.le_of_ble_eq_true rfl) (Nat.le_of_ble_eq_true rfl) rfl mw_805 rfl ?_
  refine e_iload_n (pc' := 87) (i := 3) rfl rfl dX7_spare_86 rfl ?_
  refine e_icmp_le (tgt := 97) (pc' := 90) dX7_spare_87 (by decide) rfl h (fun h => ?_) (fun h => ?_)
  · refine e_iload_n (pc' := 98) (i := 3) rfl rfl dX7_spare_97 rfl ?_
    exact e_weak (lc' := [some (.ref 59), some (.int x1), some (.int s0), none, some (.int x4)]) (gle_s (gle_s (gle_s (gle_n (gle_s gle_0))))) (w_X7_spare_p98 _ hk46 _ _ _ _ _ _ _ _ h)
  · refine e_aload_n (pc' := 91) (i := 0) rfl rfl dX7_spare_90 rfl ?_
    refine e_getI (a := 59) (n := 955) (k0 := 11) (pc' := 94) dX7_spare_91 rfl rfl (Nat.le_of_ble_eq_true rfl) (Nat.le_of_ble_eq_true rfl) rfl mw_805 rfl ?_
    refine e_goto (tgt := 98) dX7_spare_94 (by decide) ?_
    exact e_weak (lc' := [some (.ref 59), some (.int x1), some (.int s0), none, some (.int x4)]) (gle_s (gle_s (gle_s (gle_n (gle_s gle_0))))) (w_X7_spare_p98 _ hk46 _ _ _ _ _ _ _ _ h)
set_option maxHeartbeats 4000000 in
set_option maxRecDepth 100000 in
theorem w_X7_spare_p46  : ∀ (n : Nat) (x1 : Int32) (x2 : Int32) (x3 : Int32) (x4 : Int32) (I : Nat → Int32) (A : Nat → Nat → Int32) (L : Nat → Int64) (t : (Int32 × gS)), f_X7_spare_p46 n x1 x2 x3 x4 I A L = some t → Ev 70 RX7 cX7_spare 5 (some .int) 4 46 [some (.ref 59), some (.int x1), some (.int x2), some (.int x3), some (.int x4)] [] I A L (some (.int t.1), t.2) := by
  intro n
  induction n with
  | zero =>
    intro x1 x2 x3 x4 I A L t h
    cases h
  | succ n ih =>
    intro x1 x2 x3 x4 I A L t h
    rw [f_X7_spare_p46] at h
    refine e_iload (pc' := 48) (i := 4) rfl dX7_spare_46 rfl ?_
    refine e_aload_n (pc' := 49) (i := 0) rfl rfl dX7_spare_48 rfl ?_
    refine e_getR (a := 59) (b := 62) (k0 := 3) (pc' := 52) dX7_spare_49 rfl rfl (Nat.le_of_ble_eq_true rfl) (Nat.le_of_ble_eq_true rfl) rfl mw_797 rfl ?_
    refine e_iconst (v := 0) (pc' := 53) (by decide) dX7_spare_52 rfl ?_
    refine e_iald (n := 129) (pc' := 54) dX7_spare_53 rfl rfl (Nat.le_of_ble_eq_true rfl) h (fun h => ?_)
    refine e_icmp_ge (tgt := 109) (pc' := 57) dX7_spare_54 (by decide) rfl h (fun h => ?_) (fun h => ?_)
    · refine e_iload_n (pc' := 110) (i := 1) rfl rfl dX7_spare_109 rfl ?_
      refine e_if_ne (tgt := 117) (pc' := 113) dX7_spare_110 (by decide) rfl h (fun h => ?_) (fun h => ?_)
      · refine e_iload_n (pc' := 118) (i := 3) rfl rfl dX7_spare_117 rfl ?_
        obtain rfl := g_re1 h
        exact e_iret dX7_spare_118
      · refine e_iload_n (pc' := 114) (i := 2) rfl rfl dX7_spare_113 rfl ?_
        refine e_goto (tgt := 118) dX7_spare_114 (by decide) ?_
        obtain rfl := g_re1 h
        exact e_iret dX7_spare_118
    · refine e_aload_n (pc' := 58) (i := 0) rfl rfl dX7_spare_57 rfl ?_
      refine e_iload (pc' := 60) (i := 4) rfl dX7_spare_58 rfl ?_
      obtain ⟨I2, A3, L4, hF1, h⟩ := g_b1_e h
      refine e_callV_v (pc' := 63) dX7_spare_60 rfl mw_902 mv_X7_goes rfl (Nat.le_of_ble_eq_true rfl) (Nat.le_of_ble_eq_true rfl) rfl (Nat.le_of_ble_eq_true rfl) (Nat.le_of_ble_eq_true rfl) rfl (c_X7_goes _ hF1) rfl ?_
      refine e_aload_n (pc' := 64) (i := 0) rfl rfl dX7_spare_63 rfl ?_
      obtain ⟨I6, A7, L8, hF5, h⟩ := g_b1_e h
      refine e_callV_v (pc' := 67) dX7_spare_64 rfl mw_924 mv_X7_lays rfl (Nat.le_of_ble_eq_true rfl) (Nat.le_of_ble_eq_true rfl) rfl (Nat.le_of_ble_eq_true rfl) (Nat.le_of_ble_eq_true rfl) rfl (c_X7_lays hF5) rfl ?_
      refine e_aload_n (pc' := 68) (i := 0) rfl rfl dX7_spare_67 rfl ?_
      refine e_getI (a := 59) (n := 955) (k0 := 11) (pc' := 71) dX7_spare_68 rfl rfl (Nat.le_of_ble_eq_true rfl) (Nat.le_of_ble_eq_true rfl) rfl mw_805 rfl ?_
      refine e_iload_n (pc' := 72) (i := 3) rfl rfl dX7_spare_71 rfl ?_
      refine e_icmp_le (tgt := 80) (pc' := 75) dX7_spare_72 (by decide) rfl h (fun h => ?_) (fun h => ?_)
      · refine e_iload_n (pc' := 81) (i := 2) rfl rfl dX7_spare_80 rfl ?_
        exact e_weak (lc' := [some (.ref 59), some (.int x1), none, some (.int x3), some (.int x4)]) (gle_s (gle_s (gle_n (gle_s (gle_s gle_0))))) (w_X7_spare_p81 _ ih _ _ _ _ _ _ _ _ h)
      · refine e_iload (pc' := 77) (i := 4) rfl dX7_spare_75 rfl ?_
        refine e_goto (tgt := 81) dX7_spare_77 (by decide) ?_
        exact e_weak (lc' := [some (.ref 59), some (.int x1), none, some (.int x3), some (.int x4)]) (gle_s (gle_s (gle_n (gle_s (gle_s gle_0))))) (w_X7_spare_p81 _ ih _ _ _ _ _ _ _ _ h)
set_option maxHeartbeats 4000000 in
set_option maxRecDepth 100000 in
theorem c_X7_spare (a0 : Int32) {I : Nat → Int32} {A : Nat → Nat → Int32} {L : Nat → Int64} {t : Int32} {I' : Nat → Int32} {A' : Nat → Nat → Int32} {L' : Nat → Int64} (h : f_X7_spare  a0 I A L = some (t, I', A', L')) : GM 70 yX7_spare cX7_spare 5 (some .int) 4 [.ref 59, .int a0] I A L (some (.int t), (I', A', L')) := by
  refine gm_of (n := 3) (lc := [some (.ref 59), some (.int a0), none, none, none]) (by decide +kernel) rfl (fun _ => Nat.le_of_ble_eq_true rfl) ?_
  change Ev 70 RX7 cX7_spare 5 (some .int) 4 0 [some (.ref 59), some (.int a0), none, none, none] [] I A L _
  unfold f_X7_spare at h
  refine e_iload_n (pc' := 1) (i := 1) rfl rfl dX7_spare_0 rfl ?_
  refine e_iconst (v := 0) (pc' := 2) (by decide) dX7_spare_1 rfl ?_
  refine e_iconst (v := 1) (pc' := 3) (by decide) dX7_spare_2 rfl ?_
  obtain ⟨v2, hF1, h⟩ := g_bd_e h
  refine e_callS_i (pc' := 6) dX7_spare_3 rfl mw_851 ms_X7_in rfl (Nat.le_of_ble_eq_true rfl) (Nat.le_of_ble_eq_true rfl) (c_X7_in _ _ _ hF1) rfl ?_
  refine e_if_ne (tgt := 16) (pc' := 9) dX7_spare_6 (by decide) rfl h (fun h => ?_) (fun h => ?_)
  · refine e_aload_n (pc' := 17) (i := 0) rfl rfl dX7_spare_16 rfl ?_
    refine e_getR (a := 59) (b := 60) (k0 := 0) (pc' := 20) dX7_spare_17 rfl rfl (Nat.le_of_ble_eq_true rfl) (Nat.le_of_ble_eq_true rfl) rfl mw_794 rfl ?_
    refine e_iconst (v := 0) (pc' := 21) (by decide) dX7_spare_20 rfl ?_
    refine e_iald (n := 129) (pc' := 22) dX7_spare_21 rfl rfl (Nat.le_of_ble_eq_true rfl) h (fun h => ?_)
    refine e_bipush (v := 6) (pc' := 24) (by decide) dX7_spare_22 rfl ?_
    refine e_icmp_ne (tgt := 34) (pc' := 27) dX7_spare_24 (by decide) rfl h (fun h => ?_) (fun h => ?_)
    · refine e_aload_n (pc' := 35) (i := 0) rfl rfl dX7_spare_34 rfl ?_
      obtain ⟨I4, A5, L6, hF3, h⟩ := g_b1_e h
      refine e_callV_v (pc' := 38) dX7_spare_35 rfl mw_858 mv_X7_aside rfl (Nat.le_of_ble_eq_true rfl) (Nat.le_of_ble_eq_true rfl) rfl (Nat.le_of_ble_eq_true rfl) (Nat.le_of_ble_eq_true rfl) rfl (c_X7_aside hF3) rfl ?_
      refine e_iconst (v := (-1)) (pc' := 39) (by decide) dX7_spare_38 rfl ?_
      refine e_istore_n (pc' := 40) (i := 2) (lc' := [some (.ref 59), some (.int a0), some (.int (-1)), none, none]) rfl dX7_spare_39 rfl (Nat.le_of_ble_eq_true rfl) rfl rfl ?_
      refine e_iconst (v := (-1)) (pc' := 41) (by decide) dX7_spare_40 rfl ?_
      refine e_istore_n (pc' := 42) (i := 3) (lc' := [some (.ref 59), some (.int a0), some (.int (-1)), some (.int (-1)), none]) rfl dX7_spare_41 rfl (Nat.le_of_ble_eq_true rfl) rfl rfl ?_
      refine e_bipush (v := 6) (pc' := 44) (by decide) dX7_spare_42 rfl ?_
      refine e_istore (pc' := 46) (i := 4) (lc' := [some (.ref 59), some (.int a0), some (.int (-1)), some (.int (-1)), some (.int 6)]) dX7_spare_44 rfl (Nat.le_of_ble_eq_true rfl) rfl rfl ?_
      exact e_weak (lc' := [some (.ref 59), some (.int a0), some (.int (-1)), some (.int (-1)), some (.int 6)]) (gle_s (gle_s (gle_s (gle_s (gle_s gle_0))))) (w_X7_spare_p46  _ _ _ _ _ _ _ _ _ h)
    · refine e_aload_n (pc' := 28) (i := 0) rfl rfl dX7_spare_27 rfl ?_
      refine e_bipush (v := (-3)) (pc' := 30) (by decide) dX7_spare_28 rfl ?_
      obtain ⟨v11, I8, A9, L10, hF7, h⟩ := g_b2_e h
      refine e_callV_i (pc' := 33) dX7_spare_30 rfl mw_854 mv_X7_refuses rfl (Nat.le_of_ble_eq_true rfl) (Nat.le_of_ble_eq_true rfl) rfl (Nat.le_of_ble_eq_true rfl) (Nat.le_of_ble_eq_true rfl) rfl (c_X7_refuses _ hF7) rfl ?_
      obtain ⟨rfl, rfl, rfl, rfl⟩ := g_re4 h
      exact e_iret dX7_spare_33
  · refine e_aload_n (pc' := 10) (i := 0) rfl rfl dX7_spare_9 rfl ?_
    refine e_bipush (v := (-2)) (pc' := 12) (by decide) dX7_spare_10 rfl ?_
    obtain ⟨v16, I13, A14, L15, hF12, h⟩ := g_b2_e h
    refine e_callV_i (pc' := 15) dX7_spare_12 rfl mw_854 mv_X7_refuses rfl (Nat.le_of_ble_eq_true rfl) (Nat.le_of_ble_eq_true rfl) rfl (Nat.le_of_ble_eq_true rfl) (Nat.le_of_ble_eq_true rfl) rfl (c_X7_refuses _ hF12) rfl ?_
    obtain ⟨rfl, rfl, rfl, rfl⟩ := g_re4 h
    exact e_iret dX7_spare_15
set_option maxHeartbeats 4000000 in
set_option maxRecDepth 100000 in
theorem c_X7_type (a0 : Int32) {I : Nat → Int32} {A : Nat → Nat → Int32} {L : Nat → Int64} {t : Int32} {I' : Nat → Int32} {A' : Nat → Nat → Int32} {L' : Nat → Int64} (h : f_X7_type  a0 I A L = some (t, I', A', L')) : GM 70 yX7_type cX7_type 2 (some .int) 1 [.ref 59, .int a0] I A L (some (.int t), (I', A', L')) := by
  refine gm_of (n := 0) (lc := [some (.ref 59), some (.int a0)]) (by decide +kernel) rfl (fun _ => Nat.le_of_ble_eq_true rfl) ?_
  change Ev 70 RX7 cX7_type 2 (some .int) 1 0 [some (.ref 59), some (.int a0)] [] I A L _
  unfold f_X7_type at h
  refine e_iload_n (pc' := 1) (i := 1) rfl rfl dX7_type_0 rfl ?_
  refine e_iconst (v := 0) (pc' := 2) (by decide) dX7_type_1 rfl ?_
  refine e_bipush (v := 127) (pc' := 4) (by decide) dX7_type_2 rfl ?_
  obtain ⟨v2, hF1, h⟩ := g_bd_e h
  refine e_callS_i (pc' := 7) dX7_type_4 rfl mw_851 ms_X7_in rfl (Nat.le_of_ble_eq_true rfl) (Nat.le_of_ble_eq_true rfl) (c_X7_in _ _ _ hF1) rfl ?_
  refine e_if_ne (tgt := 17) (pc' := 10) dX7_type_7 (by decide) rfl h (fun h => ?_) (fun h => ?_)
  · refine e_aload_n (pc' := 18) (i := 0) rfl rfl dX7_type_17 rfl ?_
    refine e_getI (a := 59) (n := 950) (k0 := 6) (pc' := 21) dX7_type_18 rfl rfl (Nat.le_of_ble_eq_true rfl) (Nat.le_of_ble_eq_true rfl) rfl mw_800 rfl ?_
    refine e_bipush (v := 120) (pc' := 23) (by decide) dX7_type_21 rfl ?_
    refine e_icmp_ne (tgt := 33) (pc' := 26) dX7_type_23 (by decide) rfl h (fun h => ?_) (fun h => ?_)
    · refine e_aload_n (pc' := 34) (i := 0) rfl rfl dX7_type_33 rfl ?_
      refine e_getR (a := 59) (b := 64) (k0 := 5) (pc' := 37) dX7_type_34 rfl rfl (Nat.le_of_ble_eq_true rfl) (Nat.le_of_ble_eq_true rfl) rfl mw_799 rfl ?_
      refine e_aload_n (pc' := 38) (i := 0) rfl rfl dX7_type_37 rfl ?_
      refine e_getI (a := 59) (n := 950) (k0 := 6) (pc' := 41) dX7_type_38 rfl rfl (Nat.le_of_ble_eq_true rfl) (Nat.le_of_ble_eq_true rfl) rfl mw_800 rfl ?_
      refine e_iload_n (pc' := 42) (i := 1) rfl rfl dX7_type_41 rfl ?_
      refine e_iast (n := 120) (pc' := 43) dX7_type_42 rfl rfl (Nat.le_of_ble_eq_true rfl) h (fun h => ?_)
      refine e_ltA h (fun A3 h => ?_)
      refine e_aload_n (pc' := 44) (i := 0) rfl rfl dX7_type_43 rfl ?_
      refine e_dup (pc' := 45) rfl dX7_type_44 rfl ?_
      refine e_getI (a := 59) (n := 950) (k0 := 6) (pc' := 48) dX7_type_45 rfl rfl (Nat.le_of_ble_eq_true rfl) (Nat.le_of_ble_eq_true rfl) rfl mw_800 rfl ?_
      refine e_iconst (v := 1) (pc' := 49) (by decide) dX7_type_48 rfl ?_
      refine e_iadd (pc' := 50) dX7_type_49 rfl ?_
      refine e_putI (a := 59) (n := 950) (k0 := 6) (pc' := 53) dX7_type_50 rfl rfl (Nat.le_of_ble_eq_true rfl) (Nat.le_of_ble_eq_true rfl) rfl mw_800 rfl rfl g_pI rfl rfl ?_
      refine e_ltI h (fun I4 h => ?_)
      refine e_aload_n (pc' := 54) (i := 0) rfl rfl dX7_type_53 rfl ?_
      refine e_getI (a := 59) (n := 950) (k0 := 6) (pc' := 57) dX7_type_54 rfl rfl (Nat.le_of_ble_eq_true rfl) (Nat.le_of_ble_eq_true rfl) rfl mw_800 rfl ?_
      obtain ⟨rfl, rfl, rfl, rfl⟩ := g_re4 h
      exact e_iret dX7_type_57
    · refine e_aload_n (pc' := 27) (i := 0) rfl rfl dX7_type_26 rfl ?_
      refine e_bipush (v := (-4)) (pc' := 29) (by decide) dX7_type_27 rfl ?_
      obtain ⟨v9, I6, A7, L8, hF5, h⟩ := g_b2_e h
      refine e_callV_i (pc' := 32) dX7_type_29 rfl mw_854 mv_X7_refuses rfl (Nat.le_of_ble_eq_true rfl) (Nat.le_of_ble_eq_true rfl) rfl (Nat.le_of_ble_eq_true rfl) (Nat.le_of_ble_eq_true rfl) rfl (c_X7_refuses _ hF5) rfl ?_
      obtain ⟨rfl, rfl, rfl, rfl⟩ := g_re4 h
      exact e_iret dX7_type_32
  · refine e_aload_n (pc' := 11) (i := 0) rfl rfl dX7_type_10 rfl ?_
    refine e_bipush (v := (-2)) (pc' := 13) (by decide) dX7_type_11 rfl ?_
    obtain ⟨v14, I11, A12, L13, hF10, h⟩ := g_b2_e h
    refine e_callV_i (pc' := 16) dX7_type_13 rfl mw_854 mv_X7_refuses rfl (Nat.le_of_ble_eq_true rfl) (Nat.le_of_ble_eq_true rfl) rfl (Nat.le_of_ble_eq_true rfl) (Nat.le_of_ble_eq_true rfl) rfl (c_X7_refuses _ hF10) rfl ?_
    obtain ⟨rfl, rfl, rfl, rfl⟩ := g_re4 h
    exact e_iret dX7_type_16
set_option maxHeartbeats 4000000 in
set_option maxRecDepth 100000 in
theorem c_X7_clear  {I : Nat → Int32} {A : Nat → Nat → Int32} {L : Nat → Int64} {t : Int32} {I' : Nat → Int32} {A' : Nat → Nat → Int32} {L' : Nat → Int64} (h : f_X7_clear   I A L = some (t, I', A', L')) : GM 70 yX7_clear cX7_clear 2 (some .int) 0 [.ref 59] I A L (some (.int t), (I', A', L')) := by
  refine gm_of (n := 1) (lc := [some (.ref 59), none]) (by decide +kernel) rfl (fun _ => Nat.le_of_ble_eq_true rfl) ?_
  change Ev 70 RX7 cX7_clear 2 (some .int) 0 0 [some (.ref 59), none] [] I A L _
  unfold f_X7_clear at h
  refine e_aload_n (pc' := 1) (i := 0) rfl rfl dX7_clear_0 rfl ?_
  refine e_getI (a := 59) (n := 950) (k0 := 6) (pc' := 4) dX7_clear_1 rfl rfl (Nat.le_of_ble_eq_true rfl) (Nat.le_of_ble_eq_true rfl) rfl mw_800 rfl ?_
  refine e_istore_n (pc' := 5) (i := 1) (lc' := [some (.ref 59), some (.int (I 950))]) rfl dX7_clear_4 rfl (Nat.le_of_ble_eq_true rfl) rfl rfl ?_
  refine e_aload_n (pc' := 6) (i := 0) rfl rfl dX7_clear_5 rfl ?_
  refine e_iconst (v := 0) (pc' := 7) (by decide) dX7_clear_6 rfl ?_
  refine e_putI (a := 59) (n := 950) (k0 := 6) (pc' := 10) dX7_clear_7 rfl rfl (Nat.le_of_ble_eq_true rfl) (Nat.le_of_ble_eq_true rfl) rfl mw_800 rfl rfl g_pI rfl rfl ?_
  refine e_ltI h (fun I1 h => ?_)
  refine e_iload_n (pc' := 11) (i := 1) rfl rfl dX7_clear_10 rfl ?_
  obtain ⟨rfl, rfl, rfl, rfl⟩ := g_re4 h
  exact e_iret dX7_clear_11
set_option maxHeartbeats 4000000 in
set_option maxRecDepth 100000 in
theorem c_X7_byteAt (a0 : Int32) {I : Nat → Int32} {A : Nat → Nat → Int32} {L : Nat → Int64} {t : Int32} (h : f_X7_byteAt I A L a0 = some t) : GM 70 yX7_byteAt cX7_byteAt 2 (some .int) 0 [.ref 59, .int a0] I A L (some (.int t), (I, A, L)) := by
  refine gm_of (n := 0) (lc := [some (.ref 59), some (.int a0)]) (by decide +kernel) rfl (fun _ => Nat.le_of_ble_eq_true rfl) ?_
  change Ev 70 RX7 cX7_byteAt 2 (some .int) 0 0 [some (.ref 59), some (.int a0)] [] I A L _
  unfold f_X7_byteAt at h
  refine e_iload_n (pc' := 1) (i := 1) rfl rfl dX7_byteAt_0 rfl ?_
  refine e_aload_n (pc' := 2) (i := 0) rfl rfl dX7_byteAt_1 rfl ?_
  refine e_getI (a := 59) (n := 950) (k0 := 6) (pc' := 5) dX7_byteAt_2 rfl rfl (Nat.le_of_ble_eq_true rfl) (Nat.le_of_ble_eq_true rfl) rfl mw_800 rfl ?_
  refine e_icmp_ge (tgt := 17) (pc' := 8) dX7_byteAt_5 (by decide) rfl h (fun h => ?_) (fun h => ?_)
  · refine e_iconst (v := (-1)) (pc' := 18) (by decide) dX7_byteAt_17 rfl ?_
    obtain rfl := g_re1 h
    exact e_iret dX7_byteAt_18
  · refine e_aload_n (pc' := 9) (i := 0) rfl rfl dX7_byteAt_8 rfl ?_
    refine e_getR (a := 59) (b := 64) (k0 := 5) (pc' := 12) dX7_byteAt_9 rfl rfl (Nat.le_of_ble_eq_true rfl) (Nat.le_of_ble_eq_true rfl) rfl mw_799 rfl ?_
    refine e_iload_n (pc' := 13) (i := 1) rfl rfl dX7_byteAt_12 rfl ?_
    refine e_iald (n := 120) (pc' := 14) dX7_byteAt_13 rfl rfl (Nat.le_of_ble_eq_true rfl) h (fun h => ?_)
    refine e_goto (tgt := 18) dX7_byteAt_14 (by decide) ?_
    obtain rfl := g_re1 h
    exact e_iret dX7_byteAt_18
set_option maxHeartbeats 4000000 in
set_option maxRecDepth 100000 in
theorem w_X7_skips_p0  : ∀ (n : Nat) (I : Nat → Int32) (A : Nat → Nat → Int32) (L : Nat → Int64) (t : gS), f_X7_skips_p0 n I A L = some t → Ev 70 RX7 cX7_skips 1 none 1 0 [some (.ref 59)] [] I A L (none, t) := by
  intro n
  induction n with
  | zero =>
    intro  I A L t h
    cases h
  | succ n ih =>
    intro  I A L t h
    rw [f_X7_skips_p0] at h
    refine e_aload_n (pc' := 1) (i := 0) rfl rfl dX7_skips_0 rfl ?_
    refine e_aload_n (pc' := 2) (i := 0) rfl rfl dX7_skips_1 rfl ?_
    refine e_getI (a := 59) (n := 951) (k0 := 7) (pc' := 5) dX7_skips_2 rfl rfl (Nat.le_of_ble_eq_true rfl) (Nat.le_of_ble_eq_true rfl) rfl mw_801 rfl ?_
    obtain ⟨v2, hF1, h⟩ := g_bd_e h
    refine e_callV_i (pc' := 8) dX7_skips_5 rfl mw_1080 mv_X7_byteAt rfl (Nat.le_of_ble_eq_true rfl) (Nat.le_of_ble_eq_true rfl) rfl (Nat.le_of_ble_eq_true rfl) (Nat.le_of_ble_eq_true rfl) rfl (c_X7_byteAt _ hF1) rfl ?_
    refine e_bipush (v := 32) (pc' := 10) (by decide) dX7_skips_8 rfl ?_
    refine e_icmp_ne (tgt := 26) (pc' := 13) dX7_skips_10 (by decide) rfl h (fun h => ?_) (fun h => ?_)
    · obtain rfl := g_re1 h
      exact e_vret dX7_skips_26
    · refine e_aload_n (pc' := 14) (i := 0) rfl rfl dX7_skips_13 rfl ?_
      refine e_dup (pc' := 15) rfl dX7_skips_14 rfl ?_
      refine e_getI (a := 59) (n := 951) (k0 := 7) (pc' := 18) dX7_skips_15 rfl rfl (Nat.le_of_ble_eq_true rfl) (Nat.le_of_ble_eq_true rfl) rfl mw_801 rfl ?_
      refine e_iconst (v := 1) (pc' := 19) (by decide) dX7_skips_18 rfl ?_
      refine e_iadd (pc' := 20) dX7_skips_19 rfl ?_
      refine e_putI (a := 59) (n := 951) (k0 := 7) (pc' := 23) dX7_skips_20 rfl rfl (Nat.le_of_ble_eq_true rfl) (Nat.le_of_ble_eq_true rfl) rfl mw_801 rfl rfl g_pI rfl rfl ?_
      refine e_ltI h (fun I3 h => ?_)
      refine e_goto (tgt := 0) dX7_skips_23 (by decide) ?_
      exact e_weak (lc' := [some (.ref 59)]) (gle_s gle_0) (ih _ _ _ _ h)
set_option maxHeartbeats 4000000 in
set_option maxRecDepth 100000 in
theorem c_X7_skips  {I : Nat → Int32} {A : Nat → Nat → Int32} {L : Nat → Int64} {I' : Nat → Int32} {A' : Nat → Nat → Int32} {L' : Nat → Int64} (h : f_X7_skips   I A L = some (I', A', L')) : GM 70 yX7_skips cX7_skips 1 none 1 [.ref 59] I A L (none, (I', A', L')) := by
  refine gm_of (n := 0) (lc := [some (.ref 59)]) (by decide +kernel) rfl (fun _ => Nat.le_of_ble_eq_true rfl) ?_
  change Ev 70 RX7 cX7_skips 1 none 1 0 [some (.ref 59)] [] I A L _
  unfold f_X7_skips at h
  exact e_weak (lc' := [some (.ref 59)]) (gle_s gle_0) (w_X7_skips_p0  _ _ _ _ _ h)
set_option maxHeartbeats 4000000 in
set_option maxRecDepth 100000 in
theorem w_X7_readsSign_p44  (k2 : Int32 → (Nat → Int32) → (Nat → Nat → Int32) → (Nat → Int64) → Option (Int32 × gS)) (hk2 : ∀ (x1 : Int32) (I : Nat → Int32) (A : Nat → Nat → Int32) (L : Nat → Int64) (t : (Int32 × gS)), k2 x1 I A L = some t → Ev 70 RX7 cX7_readsSign 3 (some .boolean) 2 2 [some (.ref 59), some (.int x1), none] [] I A L (some (.int t.1), t.2)) : ∀ (x1 : Int32) (x2 : Int32) (s1 : Int32) (s2 : Int32) (I : Nat → Int32) (A : Nat → Nat → Int32) (L : Nat → Int64) (t : (Int32 × gS)), f_X7_readsSign_p44 k2 x1 x2 s1 s2 I A L = some t → Ev 70 RX7 cX7_readsSign 3 (some .boolean) 2 44 [some (.ref 59), some (.int x1), some (.int x2)] [.int s2, .int s1, .ref 59] I A L (some (.int t.1), t.2) := by
  intro x1 x2 s1 s2 I A L t h
  unfold f_X7_readsSign_p44 at h
  refine e_iadd (pc' := 45) dX7_readsSign_44 rfl ?_
  refine e_putI (a := 59) (n := 951) (k0 := 7) (pc' := 48) dX7_readsSign_45 rfl rfl (Nat.le_of_ble_eq_true rfl) (Nat.le_of_ble_eq_true rfl) rfl mw_801 rfl rfl g_pI rfl rfl ?_
  refine e_ltI h (fun I1 h => ?_)
  refine e_aload_n (pc' := 49) (i := 0) rfl rfl dX7_readsSign_48 rfl ?_
  obtain ⟨I3, A4, L5, hF2, h⟩ := g_b1_e h
  refine e_callV_v (pc' := 52) dX7_readsSign_49 rfl mw_1076 mv_X7_skips rfl (Nat.le_of_ble_eq_true rfl) (Nat.le_of_ble_eq_true rfl) rfl (Nat.le_of_ble_eq_true rfl) (Nat.le_of_ble_eq_true rfl) rfl (c_X7_skips hF2) rfl ?_
  refine e_aload_n (pc' := 53) (i := 0) rfl rfl dX7_readsSign_52 rfl ?_
  refine e_aload_n (pc' := 54) (i := 0) rfl rfl dX7_readsSign_53 rfl ?_
  refine e_getI (a := 59) (n := 951) (k0 := 7) (pc' := 57) dX7_readsSign_54 rfl rfl (Nat.le_of_ble_eq_true rfl) (Nat.le_of_ble_eq_true rfl) rfl mw_801 rfl ?_
  obtain ⟨v7, hF6, h⟩ := g_bd_e h
  refine e_callV_i (pc' := 60) dX7_readsSign_57 rfl mw_1080 mv_X7_byteAt rfl (Nat.le_of_ble_eq_true rfl) (Nat.le_of_ble_eq_true rfl) rfl (Nat.le_of_ble_eq_true rfl) (Nat.le_of_ble_eq_true rfl) rfl (c_X7_byteAt _ hF6) rfl ?_
  refine e_bipush (v := 48) (pc' := 62) (by decide) dX7_readsSign_60 rfl ?_
  refine e_bipush (v := 51) (pc' := 64) (by decide) dX7_readsSign_62 rfl ?_
  obtain ⟨v9, hF8, h⟩ := g_bd_e h
  refine e_callS_i (pc' := 67) dX7_readsSign_64 rfl mw_851 ms_X7_in rfl (Nat.le_of_ble_eq_true rfl) (Nat.le_of_ble_eq_true rfl) (c_X7_in _ _ _ hF8) rfl ?_
  refine e_if_ne (tgt := 72) (pc' := 70) dX7_readsSign_67 (by decide) rfl h (fun h => ?_) (fun h => ?_)
  · refine e_aload_n (pc' := 73) (i := 0) rfl rfl dX7_readsSign_72 rfl ?_
    refine e_getR (a := 59) (b := 68) (k0 := 14) (pc' := 76) dX7_readsSign_73 rfl rfl (Nat.le_of_ble_eq_true rfl) (Nat.le_of_ble_eq_true rfl) rfl mw_808 rfl ?_
    refine e_iload_n (pc' := 77) (i := 1) rfl rfl dX7_readsSign_76 rfl ?_
    refine e_iload_n (pc' := 78) (i := 2) rfl rfl dX7_readsSign_77 rfl ?_
    refine e_if_eq (tgt := 96) (pc' := 81) dX7_readsSign_78 (by decide) rfl h (fun h => ?_) (fun h => ?_)
    · refine e_aload_n (pc' := 97) (i := 0) rfl rfl dX7_readsSign_96 rfl ?_
      refine e_getR (a := 59) (b := 64) (k0 := 5) (pc' := 100) dX7_readsSign_97 rfl rfl (Nat.le_of_ble_eq_true rfl) (Nat.le_of_ble_eq_true rfl) rfl mw_799 rfl ?_
      refine e_aload_n (pc' := 101) (i := 0) rfl rfl dX7_readsSign_100 rfl ?_
      refine e_getI (a := 59) (n := 951) (k0 := 7) (pc' := 104) dX7_readsSign_101 rfl rfl (Nat.le_of_ble_eq_true rfl) (Nat.le_of_ble_eq_true rfl) rfl mw_801 rfl ?_
      refine e_iald (n := 120) (pc' := 105) dX7_readsSign_104 rfl rfl (Nat.le_of_ble_eq_true rfl) h (fun h => ?_)
      refine e_bipush (v := 48) (pc' := 107) (by decide) dX7_readsSign_105 rfl ?_
      refine e_isub (pc' := 108) dX7_readsSign_107 rfl ?_
      refine e_iast (n := 3) (pc' := 109) dX7_readsSign_108 rfl rfl (Nat.le_of_ble_eq_true rfl) h (fun h => ?_)
      refine e_ltA h (fun A10 h => ?_)
      refine e_aload_n (pc' := 110) (i := 0) rfl rfl dX7_readsSign_109 rfl ?_
      refine e_dup (pc' := 111) rfl dX7_readsSign_110 rfl ?_
      refine e_getI (a := 59) (n := 951) (k0 := 7) (pc' := 114) dX7_readsSign_111 rfl rfl (Nat.le_of_ble_eq_true rfl) (Nat.le_of_ble_eq_true rfl) rfl mw_801 rfl ?_
      refine e_iconst (v := 1) (pc' := 115) (by decide) dX7_readsSign_114 rfl ?_
      refine e_iadd (pc' := 116) dX7_readsSign_115 rfl ?_
      refine e_putI (a := 59) (n := 951) (k0 := 7) (pc' := 119) dX7_readsSign_116 rfl rfl (Nat.le_of_ble_eq_true rfl) (Nat.le_of_ble_eq_true rfl) rfl mw_801 rfl rfl g_pI rfl rfl ?_
      refine e_ltI h (fun I11 h => ?_)
      refine e_iinc (pc' := 122) (v := (x1 + 1)) (lc' := [some (.ref 59), some (.int (x1 + 1)), some (.int x2)]) dX7_readsSign_119 rfl rfl rfl (Nat.le_of_ble_eq_true rfl) rfl rfl ?_
      refine e_goto (tgt := 2) dX7_readsSign_122 (by decide) ?_
      exact e_weak (lc' := [some (.ref 59), some (.int (x1 + 1)), none]) (gle_s (gle_s (gle_n gle_0))) (hk2 _ _ _ _ _ h)
    · refine e_bipush (v := 48) (pc' := 83) (by decide) dX7_readsSign_81 rfl ?_
      refine e_aload_n (pc' := 84) (i := 0) rfl rfl dX7_readsSign_83 rfl ?_
      refine e_getR (a := 59) (b := 64) (k0 := 5) (pc' := 87) dX7_readsSign_84 rfl rfl (Nat.le_of_ble_eq_true rfl) (Nat.le_of_ble_eq_true rfl) rfl mw_799 rfl ?_
      refine e_aload_n (pc' := 88) (i := 0) rfl rfl dX7_readsSign_87 rfl ?_
      refine e_getI (a := 59) (n := 951) (k0 := 7) (pc' := 91) dX7_readsSign_88 rfl rfl (Nat.le_of_ble_eq_true rfl) (Nat.le_of_ble_eq_true rfl) rfl mw_801 rfl ?_
      refine e_iald (n := 120) (pc' := 92) dX7_readsSign_91 rfl rfl (Nat.le_of_ble_eq_true rfl) h (fun h => ?_)
      refine e_isub (pc' := 93) dX7_readsSign_92 rfl ?_
      refine e_goto (tgt := 108) dX7_readsSign_93 (by decide) ?_
      refine e_iast (n := 3) (pc' := 109) dX7_readsSign_108 rfl rfl (Nat.le_of_ble_eq_true rfl) h (fun h => ?_)
      refine e_ltA h (fun A12 h => ?_)
      refine e_aload_n (pc' := 110) (i := 0) rfl rfl dX7_readsSign_109 rfl ?_
      refine e_dup (pc' := 111) rfl dX7_readsSign_110 rfl ?_
      refine e_getI (a := 59) (n := 951) (k0 := 7) (pc' := 114) dX7_readsSign_111 rfl rfl (Nat.le_of_ble_eq_true rfl) (Nat.le_of_ble_eq_true rfl) rfl mw_801 rfl ?_
      refine e_iconst (v := 1) (pc' := 115) (by decide) dX7_readsSign_114 rfl ?_
      refine e_iadd (pc' := 116) dX7_readsSign_115 rfl ?_
      refine e_putI (a := 59) (n := 951) (k0 := 7) (pc' := 119) dX7_readsSign_116 rfl rfl (Nat.le_of_ble_eq_true rfl) (Nat.le_of_ble_eq_true rfl) rfl mw_801 rfl rfl g_pI rfl rfl ?_
      refine e_ltI h (fun I13 h => ?_)
      refine e_iinc (pc' := 122) (v := (x1 + 1)) (lc' := [some (.ref 59), some (.int (x1 + 1)), some (.int x2)]) dX7_readsSign_119 rfl rfl rfl (Nat.le_of_ble_eq_true rfl) rfl rfl ?_
      refine e_goto (tgt := 2) dX7_readsSign_122 (by decide) ?_
      exact e_weak (lc' := [some (.ref 59), some (.int (x1 + 1)), none]) (gle_s (gle_s (gle_n gle_0))) (hk2 _ _ _ _ _ h)
  · refine e_iconst (v := 0) (pc' := 71) (by decide) dX7_readsSign_70 rfl ?_
    obtain rfl := g_re1 h
    exact e_zret dX7_readsSign_71 (by decide)
set_option maxHeartbeats 4000000 in
set_option maxRecDepth 100000 in
theorem w_X7_readsSign_p29  (k2 : Int32 → (Nat → Int32) → (Nat → Nat → Int32) → (Nat → Int64) → Option (Int32 × gS)) (hk2 : ∀ (x1 : Int32) (I : Nat → Int32) (A : Nat → Nat → Int32) (L : Nat → Int64) (t : (Int32 × gS)), k2 x1 I A L = some t → Ev 70 RX7 cX7_readsSign 3 (some .boolean) 2 2 [some (.ref 59), some (.int x1), none] [] I A L (some (.int t.1), t.2)) : ∀ (x1 : Int32) (s0 : Int32) (I : Nat → Int32) (A : Nat → Nat → Int32) (L : Nat → Int64) (t : (Int32 × gS)), f_X7_readsSign_p29 k2 x1 s0 I A L = some t → Ev 70 RX7 cX7_readsSign 3 (some .boolean) 2 29 [some (.ref 59), some (.int x1), none] [.int s0] I A L (some (.int t.1), t.2) := by
  intro x1 s0 I A L t h
  unfold f_X7_readsSign_p29 at h
  refine e_istore_n (pc' := 30) (i := 2) (lc' := [some (.ref 59), some (.int x1), some (.int s0)]) rfl dX7_readsSign_29 rfl (Nat.le_of_ble_eq_true rfl) rfl rfl ?_
  refine e_aload_n (pc' := 31) (i := 0) rfl rfl dX7_readsSign_30 rfl ?_
  refine e_dup (pc' := 32) rfl dX7_readsSign_31 rfl ?_
  refine e_getI (a := 59) (n := 951) (k0 := 7) (pc' := 35) dX7_readsSign_32 rfl rfl (Nat.le_of_ble_eq_true rfl) (Nat.le_of_ble_eq_true rfl) rfl mw_801 rfl ?_
  refine e_iload_n (pc' := 36) (i := 2) rfl rfl dX7_readsSign_35 rfl ?_
  refine e_if_eq (tgt := 43) (pc' := 39) dX7_readsSign_36 (by decide) rfl h (fun h => ?_) (fun h => ?_)
  · refine e_iconst (v := 0) (pc' := 44) (by decide) dX7_readsSign_43 rfl ?_
    exact e_weak (lc' := [some (.ref 59), some (.int x1), some (.int s0)]) (gle_s (gle_s (gle_s gle_0))) (w_X7_readsSign_p44 _ hk2 _ _ _ _ _ _ _ _ h)
  · refine e_iconst (v := 1) (pc' := 40) (by decide) dX7_readsSign_39 rfl ?_
    refine e_goto (tgt := 44) dX7_readsSign_40 (by decide) ?_
    exact e_weak (lc' := [some (.ref 59), some (.int x1), some (.int s0)]) (gle_s (gle_s (gle_s gle_0))) (w_X7_readsSign_p44 _ hk2 _ _ _ _ _ _ _ _ h)
set_option maxHeartbeats 4000000 in
set_option maxRecDepth 100000 in
theorem w_X7_readsSign_p2  : ∀ (n : Nat) (x1 : Int32) (I : Nat → Int32) (A : Nat → Nat → Int32) (L : Nat → Int64) (t : (Int32 × gS)), f_X7_readsSign_p2 n x1 I A L = some t → Ev 70 RX7 cX7_readsSign 3 (some .boolean) 2 2 [some (.ref 59), some (.int x1), none] [] I A L (some (.int t.1), t.2) := by
  intro n
  induction n with
  | zero =>
    intro x1 I A L t h
    cases h
  | succ n ih =>
    intro x1 I A L t h
    rw [f_X7_readsSign_p2] at h
    refine e_iload_n (pc' := 3) (i := 1) rfl rfl dX7_readsSign_2 rfl ?_
    refine e_iconst (v := 3) (pc' := 4) (by decide) dX7_readsSign_3 rfl ?_
    refine e_icmp_ge (tgt := 125) (pc' := 7) dX7_readsSign_4 (by decide) rfl h (fun h => ?_) (fun h => ?_)
    · refine e_aload_n (pc' := 126) (i := 0) rfl rfl dX7_readsSign_125 rfl ?_
      obtain ⟨I2, A3, L4, hF1, h⟩ := g_b1_e h
      refine e_callV_v (pc' := 129) dX7_readsSign_126 rfl mw_1076 mv_X7_skips rfl (Nat.le_of_ble_eq_true rfl) (Nat.le_of_ble_eq_true rfl) rfl (Nat.le_of_ble_eq_true rfl) (Nat.le_of_ble_eq_true rfl) rfl (c_X7_skips hF1) rfl ?_
      refine e_aload_n (pc' := 130) (i := 0) rfl rfl dX7_readsSign_129 rfl ?_
      refine e_aload_n (pc' := 131) (i := 0) rfl rfl dX7_readsSign_130 rfl ?_
      refine e_getI (a := 59) (n := 951) (k0 := 7) (pc' := 134) dX7_readsSign_131 rfl rfl (Nat.le_of_ble_eq_true rfl) (Nat.le_of_ble_eq_true rfl) rfl mw_801 rfl ?_
      obtain ⟨v6, hF5, h⟩ := g_bd_e h
      refine e_callV_i (pc' := 137) dX7_readsSign_134 rfl mw_1080 mv_X7_byteAt rfl (Nat.le_of_ble_eq_true rfl) (Nat.le_of_ble_eq_true rfl) rfl (Nat.le_of_ble_eq_true rfl) (Nat.le_of_ble_eq_true rfl) rfl (c_X7_byteAt _ hF5) rfl ?_
      refine e_bipush (v := 47) (pc' := 139) (by decide) dX7_readsSign_137 rfl ?_
      refine e_icmp_ne (tgt := 169) (pc' := 142) dX7_readsSign_139 (by decide) rfl h (fun h => ?_) (fun h => ?_)
      · refine e_iconst (v := 0) (pc' := 170) (by decide) dX7_readsSign_169 rfl ?_
        obtain rfl := g_re1 h
        exact e_zret dX7_readsSign_170 (by decide)
      · refine e_aload_n (pc' := 143) (i := 0) rfl rfl dX7_readsSign_142 rfl ?_
        refine e_getR (a := 59) (b := 68) (k0 := 14) (pc' := 146) dX7_readsSign_143 rfl rfl (Nat.le_of_ble_eq_true rfl) (Nat.le_of_ble_eq_true rfl) rfl mw_808 rfl ?_
        refine e_iconst (v := 0) (pc' := 147) (by decide) dX7_readsSign_146 rfl ?_
        refine e_iald (n := 3) (pc' := 148) dX7_readsSign_147 rfl rfl (Nat.le_of_ble_eq_true rfl) h (fun h => ?_)
        refine e_if_ne (tgt := 171) (pc' := 151) dX7_readsSign_148 (by decide) rfl h (fun h => ?_) (fun h => ?_)
        · refine e_aload_n (pc' := 172) (i := 0) rfl rfl dX7_readsSign_171 rfl ?_
          refine e_dup (pc' := 173) rfl dX7_readsSign_172 rfl ?_
          refine e_getI (a := 59) (n := 951) (k0 := 7) (pc' := 176) dX7_readsSign_173 rfl rfl (Nat.le_of_ble_eq_true rfl) (Nat.le_of_ble_eq_true rfl) rfl mw_801 rfl ?_
          refine e_iconst (v := 1) (pc' := 177) (by decide) dX7_readsSign_176 rfl ?_
          refine e_iadd (pc' := 178) dX7_readsSign_177 rfl ?_
          refine e_putI (a := 59) (n := 951) (k0 := 7) (pc' := 181) dX7_readsSign_178 rfl rfl (Nat.le_of_ble_eq_true rfl) (Nat.le_of_ble_eq_true rfl) rfl mw_801 rfl rfl g_pI rfl rfl ?_
          refine e_ltI h (fun I7 h => ?_)
          refine e_iconst (v := 1) (pc' := 182) (by decide) dX7_readsSign_181 rfl ?_
          obtain rfl := g_re1 h
          exact e_zret dX7_readsSign_182 (by decide)
        · refine e_aload_n (pc' := 152) (i := 0) rfl rfl dX7_readsSign_151 rfl ?_
          refine e_getR (a := 59) (b := 68) (k0 := 14) (pc' := 155) dX7_readsSign_152 rfl rfl (Nat.le_of_ble_eq_true rfl) (Nat.le_of_ble_eq_true rfl) rfl mw_808 rfl ?_
          refine e_iconst (v := 1) (pc' := 156) (by decide) dX7_readsSign_155 rfl ?_
          refine e_iald (n := 3) (pc' := 157) dX7_readsSign_156 rfl rfl (Nat.le_of_ble_eq_true rfl) h (fun h => ?_)
          refine e_if_ne (tgt := 171) (pc' := 160) dX7_readsSign_157 (by decide) rfl h (fun h => ?_) (fun h => ?_)
          · refine e_aload_n (pc' := 172) (i := 0) rfl rfl dX7_readsSign_171 rfl ?_
            refine e_dup (pc' := 173) rfl dX7_readsSign_172 rfl ?_
            refine e_getI (a := 59) (n := 951) (k0 := 7) (pc' := 176) dX7_readsSign_173 rfl rfl (Nat.le_of_ble_eq_true rfl) (Nat.le_of_ble_eq_true rfl) rfl mw_801 rfl ?_
            refine e_iconst (v := 1) (pc' := 177) (by decide) dX7_readsSign_176 rfl ?_
            refine e_iadd (pc' := 178) dX7_readsSign_177 rfl ?_
            refine e_putI (a := 59) (n := 951) (k0 := 7) (pc' := 181) dX7_readsSign_178 rfl rfl (Nat.le_of_ble_eq_true rfl) (Nat.le_of_ble_eq_true rfl) rfl mw_801 rfl rfl g_pI rfl rfl ?_
            refine e_ltI h (fun I8 h => ?_)
            refine e_iconst (v := 1) (pc' := 182) (by decide) dX7_readsSign_181 rfl ?_
            obtain rfl := g_re1 h
            exact e_zret dX7_readsSign_182 (by decide)
          · refine e_aload_n (pc' := 161) (i := 0) rfl rfl dX7_readsSign_160 rfl ?_
            refine e_getR (a := 59) (b := 68) (k0 := 14) (pc' := 164) dX7_readsSign_161 rfl rfl (Nat.le_of_ble_eq_true rfl) (Nat.le_of_ble_eq_true rfl) rfl mw_808 rfl ?_
            refine e_iconst (v := 2) (pc' := 165) (by decide) dX7_readsSign_164 rfl ?_
            refine e_iald (n := 3) (pc' := 166) dX7_readsSign_165 rfl rfl (Nat.le_of_ble_eq_true rfl) h (fun h => ?_)
            refine e_if_ne (tgt := 171) (pc' := 169) dX7_readsSign_166 (by decide) rfl h (fun h => ?_) (fun h => ?_)
            · refine e_aload_n (pc' := 172) (i := 0) rfl rfl dX7_readsSign_171 rfl ?_
              refine e_dup (pc' := 173) rfl dX7_readsSign_172 rfl ?_
              refine e_getI (a := 59) (n := 951) (k0 := 7) (pc' := 176) dX7_readsSign_173 rfl rfl (Nat.le_of_ble_eq_true rfl) (Nat.le_of_ble_eq_true rfl) rfl mw_801 rfl ?_
              refine e_iconst (v := 1) (pc' := 177) (by decide) dX7_readsSign_176 rfl ?_
              refine e_iadd (pc' := 178) dX7_readsSign_177 rfl ?_
              refine e_putI (a := 59) (n := 951) (k0 := 7) (pc' := 181) dX7_readsSign_178 rfl rfl (Nat.le_of_ble_eq_true rfl) (Nat.le_of_ble_eq_true rfl) rfl mw_801 rfl rfl g_pI rfl rfl ?_
              refine e_ltI h (fun I9 h => ?_)
              refine e_iconst (v := 1) (pc' := 182) (by decide) dX7_readsSign_181 rfl ?_
              obtain rfl := g_re1 h
              exact e_zret dX7_readsSign_182 (by decide)
            · refine e_iconst (v := 0) (pc' := 170) (by decide) dX7_readsSign_169 rfl ?_
              obtain rfl := g_re1 h
              exact e_zret dX7_readsSign_170 (by decide)
    · refine e_aload_n (pc' := 8) (i := 0) rfl rfl dX7_readsSign_7 rfl ?_
      obtain ⟨I11, A12, L13, hF10, h⟩ := g_b1_e h
      refine e_callV_v (pc' := 11) dX7_readsSign_8 rfl mw_1076 mv_X7_skips rfl (Nat.le_of_ble_eq_true rfl) (Nat.le_of_ble_eq_true rfl) rfl (Nat.le_of_ble_eq_true rfl) (Nat.le_of_ble_eq_true rfl) rfl (c_X7_skips hF10) rfl ?_
      refine e_aload_n (pc' := 12) (i := 0) rfl rfl dX7_readsSign_11 rfl ?_
      refine e_aload_n (pc' := 13) (i := 0) rfl rfl dX7_readsSign_12 rfl ?_
      refine e_getI (a := 59) (n := 951) (k0 := 7) (pc' := 16) dX7_readsSign_13 rfl rfl (Nat.le_of_ble_eq_true rfl) (Nat.le_of_ble_eq_true rfl) rfl mw_801 rfl ?_
      obtain ⟨v15, hF14, h⟩ := g_bd_e h
      refine e_callV_i (pc' := 19) dX7_readsSign_16 rfl mw_1080 mv_X7_byteAt rfl (Nat.le_of_ble_eq_true rfl) (Nat.le_of_ble_eq_true rfl) rfl (Nat.le_of_ble_eq_true rfl) (Nat.le_of_ble_eq_true rfl) rfl (c_X7_byteAt _ hF14) rfl ?_
      refine e_bipush (v := 45) (pc' := 21) (by decide) dX7_readsSign_19 rfl ?_
      refine e_icmp_ne (tgt := 28) (pc' := 24) dX7_readsSign_21 (by decide) rfl h (fun h => ?_) (fun h => ?_)
      · refine e_iconst (v := 0) (pc' := 29) (by decide) dX7_readsSign_28 rfl ?_
        exact e_weak (lc' := [some (.ref 59), some (.int x1), none]) (gle_s (gle_s (gle_n gle_0))) (w_X7_readsSign_p29 _ ih _ _ _ _ _ _ h)
      · refine e_iconst (v := 1) (pc' := 25) (by decide) dX7_readsSign_24 rfl ?_
        refine e_goto (tgt := 29) dX7_readsSign_25 (by decide) ?_
        exact e_weak (lc' := [some (.ref 59), some (.int x1), none]) (gle_s (gle_s (gle_n gle_0))) (w_X7_readsSign_p29 _ ih _ _ _ _ _ _ h)
set_option maxHeartbeats 4000000 in
set_option maxRecDepth 100000 in
theorem c_X7_readsSign  {I : Nat → Int32} {A : Nat → Nat → Int32} {L : Nat → Int64} {t : Int32} {I' : Nat → Int32} {A' : Nat → Nat → Int32} {L' : Nat → Int64} (h : f_X7_readsSign   I A L = some (t, I', A', L')) : GM 70 yX7_readsSign cX7_readsSign 3 (some .boolean) 2 [.ref 59] I A L (some (.int t), (I', A', L')) := by
  refine gm_of (n := 2) (lc := [some (.ref 59), none, none]) (by decide +kernel) rfl (fun _ => Nat.le_of_ble_eq_true rfl) ?_
  change Ev 70 RX7 cX7_readsSign 3 (some .boolean) 2 0 [some (.ref 59), none, none] [] I A L _
  unfold f_X7_readsSign at h
  refine e_iconst (v := 0) (pc' := 1) (by decide) dX7_readsSign_0 rfl ?_
  refine e_istore_n (pc' := 2) (i := 1) (lc' := [some (.ref 59), some (.int 0), none]) rfl dX7_readsSign_1 rfl (Nat.le_of_ble_eq_true rfl) rfl rfl ?_
  exact e_weak (lc' := [some (.ref 59), some (.int 0), none]) (gle_s (gle_s (gle_n gle_0))) (w_X7_readsSign_p2  _ _ _ _ _ _ h)
set_option maxHeartbeats 4000000 in
set_option maxRecDepth 100000 in
theorem w_X7_readsOff_p8  : ∀ (n : Nat) (x1 : Int32) (x2 : Int32) (I : Nat → Int32) (A : Nat → Nat → Int32) (L : Nat → Int64) (t : (Int32 × gS)), f_X7_readsOff_p8 n x1 x2 I A L = some t → Ev 70 RX7 cX7_readsOff 3 (some .int) 2 8 [some (.ref 59), some (.int x1), some (.int x2)] [] I A L (some (.int t.1), t.2) := by
  intro n
  induction n with
  | zero =>
    intro x1 x2 I A L t h
    cases h
  | succ n ih =>
    intro x1 x2 I A L t h
    rw [f_X7_readsOff_p8] at h
    refine e_aload_n (pc' := 9) (i := 0) rfl rfl dX7_readsOff_8 rfl ?_
    refine e_aload_n (pc' := 10) (i := 0) rfl rfl dX7_readsOff_9 rfl ?_
    refine e_getI (a := 59) (n := 951) (k0 := 7) (pc' := 13) dX7_readsOff_10 rfl rfl (Nat.le_of_ble_eq_true rfl) (Nat.le_of_ble_eq_true rfl) rfl mw_801 rfl ?_
    refine e_iload_n (pc' := 14) (i := 2) rfl rfl dX7_readsOff_13 rfl ?_
    refine e_iadd (pc' := 15) dX7_readsOff_14 rfl ?_
    obtain ⟨v2, hF1, h⟩ := g_bd_e h
    refine e_callV_i (pc' := 18) dX7_readsOff_15 rfl mw_1080 mv_X7_byteAt rfl (Nat.le_of_ble_eq_true rfl) (Nat.le_of_ble_eq_true rfl) rfl (Nat.le_of_ble_eq_true rfl) (Nat.le_of_ble_eq_true rfl) rfl (c_X7_byteAt _ hF1) rfl ?_
    refine e_bipush (v := 48) (pc' := 20) (by decide) dX7_readsOff_18 rfl ?_
    refine e_bipush (v := 57) (pc' := 22) (by decide) dX7_readsOff_20 rfl ?_
    obtain ⟨v4, hF3, h⟩ := g_bd_e h
    refine e_callS_i (pc' := 25) dX7_readsOff_22 rfl mw_851 ms_X7_in rfl (Nat.le_of_ble_eq_true rfl) (Nat.le_of_ble_eq_true rfl) (c_X7_in _ _ _ hF3) rfl ?_
    refine e_if_eq (tgt := 63) (pc' := 28) dX7_readsOff_25 (by decide) rfl h (fun h => ?_) (fun h => ?_)
    · refine e_iload_n (pc' := 64) (i := 2) rfl rfl dX7_readsOff_63 rfl ?_
      refine e_if_eq (tgt := 82) (pc' := 67) dX7_readsOff_64 (by decide) rfl h (fun h => ?_) (fun h => ?_)
      · refine e_iconst (v := 0) (pc' := 83) (by decide) dX7_readsOff_82 rfl ?_
        obtain rfl := g_re1 h
        exact e_iret dX7_readsOff_83
      · refine e_iload_n (pc' := 68) (i := 2) rfl rfl dX7_readsOff_67 rfl ?_
        refine e_iconst (v := 2) (pc' := 69) (by decide) dX7_readsOff_68 rfl ?_
        refine e_icmp_gt (tgt := 82) (pc' := 72) dX7_readsOff_69 (by decide) rfl h (fun h => ?_) (fun h => ?_)
        · refine e_iconst (v := 0) (pc' := 83) (by decide) dX7_readsOff_82 rfl ?_
          obtain rfl := g_re1 h
          exact e_iret dX7_readsOff_83
        · refine e_iload_n (pc' := 73) (i := 1) rfl rfl dX7_readsOff_72 rfl ?_
          refine e_iconst (v := 1) (pc' := 74) (by decide) dX7_readsOff_73 rfl ?_
          refine e_bipush (v := 60) (pc' := 76) (by decide) dX7_readsOff_74 rfl ?_
          obtain ⟨v6, hF5, h⟩ := g_bd_e h
          refine e_callS_i (pc' := 79) dX7_readsOff_76 rfl mw_851 ms_X7_in rfl (Nat.le_of_ble_eq_true rfl) (Nat.le_of_ble_eq_true rfl) (c_X7_in _ _ _ hF5) rfl ?_
          refine e_if_ne (tgt := 84) (pc' := 82) dX7_readsOff_79 (by decide) rfl h (fun h => ?_) (fun h => ?_)
          · refine e_aload_n (pc' := 85) (i := 0) rfl rfl dX7_readsOff_84 rfl ?_
            refine e_dup (pc' := 86) rfl dX7_readsOff_85 rfl ?_
            refine e_getI (a := 59) (n := 951) (k0 := 7) (pc' := 89) dX7_readsOff_86 rfl rfl (Nat.le_of_ble_eq_true rfl) (Nat.le_of_ble_eq_true rfl) rfl mw_801 rfl ?_
            refine e_iload_n (pc' := 90) (i := 2) rfl rfl dX7_readsOff_89 rfl ?_
            refine e_iadd (pc' := 91) dX7_readsOff_90 rfl ?_
            refine e_putI (a := 59) (n := 951) (k0 := 7) (pc' := 94) dX7_readsOff_91 rfl rfl (Nat.le_of_ble_eq_true rfl) (Nat.le_of_ble_eq_true rfl) rfl mw_801 rfl rfl g_pI rfl rfl ?_
            refine e_ltI h (fun I7 h => ?_)
            refine e_iload_n (pc' := 95) (i := 1) rfl rfl dX7_readsOff_94 rfl ?_
            obtain rfl := g_re1 h
            exact e_iret dX7_readsOff_95
          · refine e_iconst (v := 0) (pc' := 83) (by decide) dX7_readsOff_82 rfl ?_
            obtain rfl := g_re1 h
            exact e_iret dX7_readsOff_83
    · refine e_iload_n (pc' := 29) (i := 2) rfl rfl dX7_readsOff_28 rfl ?_
      refine e_iconst (v := 3) (pc' := 30) (by decide) dX7_readsOff_29 rfl ?_
      refine e_icmp_ge (tgt := 55) (pc' := 33) dX7_readsOff_30 (by decide) rfl h (fun h => ?_) (fun h => ?_)
      · refine e_iload_n (pc' := 56) (i := 1) rfl rfl dX7_readsOff_55 rfl ?_
        refine e_istore_n (pc' := 57) (i := 1) (lc' := [some (.ref 59), some (.int x1), some (.int x2)]) rfl dX7_readsOff_56 rfl (Nat.le_of_ble_eq_true rfl) rfl rfl ?_
        refine e_iinc (pc' := 60) (v := (x2 + 1)) (lc' := [some (.ref 59), some (.int x1), some (.int (x2 + 1))]) dX7_readsOff_57 rfl rfl rfl (Nat.le_of_ble_eq_true rfl) rfl rfl ?_
        refine e_goto (tgt := 8) dX7_readsOff_60 (by decide) ?_
        exact e_weak (lc' := [some (.ref 59), some (.int x1), some (.int (x2 + 1))]) (gle_s (gle_s (gle_s gle_0))) (ih _ _ _ _ _ _ h)
      · refine e_bipush (v := 10) (pc' := 35) (by decide) dX7_readsOff_33 rfl ?_
        refine e_iload_n (pc' := 36) (i := 1) rfl rfl dX7_readsOff_35 rfl ?_
        refine e_imul (pc' := 37) dX7_readsOff_36 rfl ?_
        refine e_aload_n (pc' := 38) (i := 0) rfl rfl dX7_readsOff_37 rfl ?_
        refine e_getR (a := 59) (b := 64) (k0 := 5) (pc' := 41) dX7_readsOff_38 rfl rfl (Nat.le_of_ble_eq_true rfl) (Nat.le_of_ble_eq_true rfl) rfl mw_799 rfl ?_
        refine e_aload_n (pc' := 42) (i := 0) rfl rfl dX7_readsOff_41 rfl ?_
        refine e_getI (a := 59) (n := 951) (k0 := 7) (pc' := 45) dX7_readsOff_42 rfl rfl (Nat.le_of_ble_eq_true rfl) (Nat.le_of_ble_eq_true rfl) rfl mw_801 rfl ?_
        refine e_iload_n (pc' := 46) (i := 2) rfl rfl dX7_readsOff_45 rfl ?_
        refine e_iadd (pc' := 47) dX7_readsOff_46 rfl ?_
        refine e_iald (n := 120) (pc' := 48) dX7_readsOff_47 rfl rfl (Nat.le_of_ble_eq_true rfl) h (fun h => ?_)
        refine e_iadd (pc' := 49) dX7_readsOff_48 rfl ?_
        refine e_bipush (v := 48) (pc' := 51) (by decide) dX7_readsOff_49 rfl ?_
        refine e_isub (pc' := 52) dX7_readsOff_51 rfl ?_
        refine e_goto (tgt := 56) dX7_readsOff_52 (by decide) ?_
        refine e_lt h (fun v8 h => ?_)
        refine e_istore_n (pc' := 57) (i := 1) (lc' := [some (.ref 59), some (.int v8), some (.int x2)]) rfl dX7_readsOff_56 rfl (Nat.le_of_ble_eq_true rfl) rfl rfl ?_
        refine e_iinc (pc' := 60) (v := (x2 + 1)) (lc' := [some (.ref 59), some (.int v8), some (.int (x2 + 1))]) dX7_readsOff_57 rfl rfl rfl (Nat.le_of_ble_eq_true rfl) rfl rfl ?_
        refine e_goto (tgt := 8) dX7_readsOff_60 (by decide) ?_
        exact e_weak (lc' := [some (.ref 59), some (.int v8), some (.int (x2 + 1))]) (gle_s (gle_s (gle_s gle_0))) (ih _ _ _ _ _ _ h)
set_option maxHeartbeats 4000000 in
set_option maxRecDepth 100000 in
theorem c_X7_readsOff  {I : Nat → Int32} {A : Nat → Nat → Int32} {L : Nat → Int64} {t : Int32} {I' : Nat → Int32} {A' : Nat → Nat → Int32} {L' : Nat → Int64} (h : f_X7_readsOff   I A L = some (t, I', A', L')) : GM 70 yX7_readsOff cX7_readsOff 3 (some .int) 2 [.ref 59] I A L (some (.int t), (I', A', L')) := by
  refine gm_of (n := 2) (lc := [some (.ref 59), none, none]) (by decide +kernel) rfl (fun _ => Nat.le_of_ble_eq_true rfl) ?_
  change Ev 70 RX7 cX7_readsOff 3 (some .int) 2 0 [some (.ref 59), none, none] [] I A L _
  unfold f_X7_readsOff at h
  refine e_aload_n (pc' := 1) (i := 0) rfl rfl dX7_readsOff_0 rfl ?_
  obtain ⟨I2, A3, L4, hF1, h⟩ := g_b1_e h
  refine e_callV_v (pc' := 4) dX7_readsOff_1 rfl mw_1076 mv_X7_skips rfl (Nat.le_of_ble_eq_true rfl) (Nat.le_of_ble_eq_true rfl) rfl (Nat.le_of_ble_eq_true rfl) (Nat.le_of_ble_eq_true rfl) rfl (c_X7_skips hF1) rfl ?_
  refine e_iconst (v := 0) (pc' := 5) (by decide) dX7_readsOff_4 rfl ?_
  refine e_istore_n (pc' := 6) (i := 1) (lc' := [some (.ref 59), some (.int 0), none]) rfl dX7_readsOff_5 rfl (Nat.le_of_ble_eq_true rfl) rfl rfl ?_
  refine e_iconst (v := 0) (pc' := 7) (by decide) dX7_readsOff_6 rfl ?_
  refine e_istore_n (pc' := 8) (i := 2) (lc' := [some (.ref 59), some (.int 0), some (.int 0)]) rfl dX7_readsOff_7 rfl (Nat.le_of_ble_eq_true rfl) rfl rfl ?_
  exact e_weak (lc' := [some (.ref 59), some (.int 0), some (.int 0)]) (gle_s (gle_s (gle_s gle_0))) (w_X7_readsOff_p8  _ _ _ _ _ _ _ h)
set_option maxHeartbeats 4000000 in
set_option maxRecDepth 100000 in
theorem w_X7_isFamily_p41 (I : Nat → Int32) (A : Nat → Nat → Int32) (L : Nat → Int64) : ∀ (x1 : Int32) (t : Int32), f_X7_isFamily_p41 I A L x1 = some t → Ev 70 RX7 cX7_isFamily 2 (some .boolean) 1 41 [some (.ref 59), some (.int x1)] [] I A L (some (.int t), (I, A, L)) := by
  intro x1  t h
  unfold f_X7_isFamily_p41 at h
  refine e_aload_n (pc' := 42) (i := 0) rfl rfl dX7_isFamily_41 rfl ?_
  refine e_iload_n (pc' := 43) (i := 1) rfl rfl dX7_isFamily_42 rfl ?_
  obtain ⟨v2, hF1, h⟩ := g_bd_e h
  refine e_callV_i (pc' := 46) dX7_isFamily_43 rfl mw_1080 mv_X7_byteAt rfl (Nat.le_of_ble_eq_true rfl) (Nat.le_of_ble_eq_true rfl) rfl (Nat.le_of_ble_eq_true rfl) (Nat.le_of_ble_eq_true rfl) rfl (c_X7_byteAt _ hF1) rfl ?_
  refine e_bipush (v := 58) (pc' := 48) (by decide) dX7_isFamily_46 rfl ?_
  refine e_icmp_ne (tgt := 55) (pc' := 51) dX7_isFamily_48 (by decide) rfl h (fun h => ?_) (fun h => ?_)
  · refine e_iconst (v := 0) (pc' := 56) (by decide) dX7_isFamily_55 rfl ?_
    obtain rfl := g_re1 h
    exact e_zret dX7_isFamily_56 (by decide)
  · refine e_iconst (v := 1) (pc' := 52) (by decide) dX7_isFamily_51 rfl ?_
    refine e_goto (tgt := 56) dX7_isFamily_52 (by decide) ?_
    obtain rfl := g_re1 h
    exact e_zret dX7_isFamily_56 (by decide)
set_option maxHeartbeats 4000000 in
set_option maxRecDepth 100000 in
theorem w_X7_isFamily_p5 (I : Nat → Int32) (A : Nat → Nat → Int32) (L : Nat → Int64) : ∀ (n : Nat) (x1 : Int32) (t : Int32), f_X7_isFamily_p5 I A L n x1 = some t → Ev 70 RX7 cX7_isFamily 2 (some .boolean) 1 5 [some (.ref 59), some (.int x1)] [] I A L (some (.int t), (I, A, L)) := by
  intro n
  induction n with
  | zero =>
    intro x1 t h
    cases h
  | succ n ih =>
    intro x1 t h
    rw [f_X7_isFamily_p5] at h
    refine e_iload_n (pc' := 6) (i := 1) rfl rfl dX7_isFamily_5 rfl ?_
    refine e_aload_n (pc' := 7) (i := 0) rfl rfl dX7_isFamily_6 rfl ?_
    refine e_getI (a := 59) (n := 950) (k0 := 6) (pc' := 10) dX7_isFamily_7 rfl rfl (Nat.le_of_ble_eq_true rfl) (Nat.le_of_ble_eq_true rfl) rfl mw_800 rfl ?_
    refine e_icmp_ge (tgt := 41) (pc' := 13) dX7_isFamily_10 (by decide) rfl h (fun h => ?_) (fun h => ?_)
    · exact e_weak (lc' := [some (.ref 59), some (.int x1)]) (gle_s (gle_s gle_0)) (w_X7_isFamily_p41 I A L  _ _ h)
    · refine e_aload_n (pc' := 14) (i := 0) rfl rfl dX7_isFamily_13 rfl ?_
      refine e_getR (a := 59) (b := 64) (k0 := 5) (pc' := 17) dX7_isFamily_14 rfl rfl (Nat.le_of_ble_eq_true rfl) (Nat.le_of_ble_eq_true rfl) rfl mw_799 rfl ?_
      refine e_iload_n (pc' := 18) (i := 1) rfl rfl dX7_isFamily_17 rfl ?_
      refine e_iald (n := 120) (pc' := 19) dX7_isFamily_18 rfl rfl (Nat.le_of_ble_eq_true rfl) h (fun h => ?_)
      refine e_bipush (v := 59) (pc' := 21) (by decide) dX7_isFamily_19 rfl ?_
      refine e_icmp_eq (tgt := 41) (pc' := 24) dX7_isFamily_21 (by decide) rfl h (fun h => ?_) (fun h => ?_)
      · exact e_weak (lc' := [some (.ref 59), some (.int x1)]) (gle_s (gle_s gle_0)) (w_X7_isFamily_p41 I A L  _ _ h)
      · refine e_aload_n (pc' := 25) (i := 0) rfl rfl dX7_isFamily_24 rfl ?_
        refine e_getR (a := 59) (b := 64) (k0 := 5) (pc' := 28) dX7_isFamily_25 rfl rfl (Nat.le_of_ble_eq_true rfl) (Nat.le_of_ble_eq_true rfl) rfl mw_799 rfl ?_
        refine e_iload_n (pc' := 29) (i := 1) rfl rfl dX7_isFamily_28 rfl ?_
        refine e_iald (n := 120) (pc' := 30) dX7_isFamily_29 rfl rfl (Nat.le_of_ble_eq_true rfl) h (fun h => ?_)
        refine e_bipush (v := 58) (pc' := 32) (by decide) dX7_isFamily_30 rfl ?_
        refine e_icmp_eq (tgt := 41) (pc' := 35) dX7_isFamily_32 (by decide) rfl h (fun h => ?_) (fun h => ?_)
        · exact e_weak (lc' := [some (.ref 59), some (.int x1)]) (gle_s (gle_s gle_0)) (w_X7_isFamily_p41 I A L  _ _ h)
        · refine e_iinc (pc' := 38) (v := (x1 + 1)) (lc' := [some (.ref 59), some (.int (x1 + 1))]) dX7_isFamily_35 rfl rfl rfl (Nat.le_of_ble_eq_true rfl) rfl rfl ?_
          refine e_goto (tgt := 5) dX7_isFamily_38 (by decide) ?_
          exact e_weak (lc' := [some (.ref 59), some (.int (x1 + 1))]) (gle_s (gle_s gle_0)) (ih _ _ h)
set_option maxHeartbeats 4000000 in
set_option maxRecDepth 100000 in
theorem c_X7_isFamily  {I : Nat → Int32} {A : Nat → Nat → Int32} {L : Nat → Int64} {t : Int32} (h : f_X7_isFamily I A L  = some t) : GM 70 yX7_isFamily cX7_isFamily 2 (some .boolean) 1 [.ref 59] I A L (some (.int t), (I, A, L)) := by
  refine gm_of (n := 1) (lc := [some (.ref 59), none]) (by decide +kernel) rfl (fun _ => Nat.le_of_ble_eq_true rfl) ?_
  change Ev 70 RX7 cX7_isFamily 2 (some .boolean) 1 0 [some (.ref 59), none] [] I A L _
  unfold f_X7_isFamily at h
  refine e_aload_n (pc' := 1) (i := 0) rfl rfl dX7_isFamily_0 rfl ?_
  refine e_getI (a := 59) (n := 951) (k0 := 7) (pc' := 4) dX7_isFamily_1 rfl rfl (Nat.le_of_ble_eq_true rfl) (Nat.le_of_ble_eq_true rfl) rfl mw_801 rfl ?_
  refine e_istore_n (pc' := 5) (i := 1) (lc' := [some (.ref 59), some (.int (I 951))]) rfl dX7_isFamily_4 rfl (Nat.le_of_ble_eq_true rfl) rfl rfl ?_
  exact e_weak (lc' := [some (.ref 59), some (.int (I 951))]) (gle_s (gle_s gle_0)) (w_X7_isFamily_p5 I A L  _ _ _ h)
