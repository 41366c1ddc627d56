set_option maxHeartbeats 4000000 in
set_option maxRecDepth 100000 in
theorem w_X7_mostAt_p17 (I : Nat → Int32) (A : Nat → Nat → Int32) (L : Nat → Int64) (k4 : Int32 → Int32 → Option Int32) (hk4 : ∀ (x1 : Int32) (x2 : Int32) (t : Int32), k4 x1 x2 = some t → Ev 70 RX7 cX7_mostAt 5 (some .int) 1 4 [some (.ref 59), some (.int x1), some (.int x2), none, none] [] I A L (some (.int t), (I, A, L))) : ∀ (n : Nat) (x1 : Int32) (x2 : Int32) (x3 : Int32) (x4 : Int32) (t : Int32), f_X7_mostAt_p17 I A L k4 n x1 x2 x3 x4 = some t → Ev 70 RX7 cX7_mostAt 5 (some .int) 1 17 [some (.ref 59), some (.int x1), some (.int x2), some (.int x3), some (.int x4)] [] I A L (some (.int t), (I, A, L)) := by
  intro n
  induction n with
  | zero =>
    intro x1 x2 x3 x4 t h
    cases h
  | succ n ih =>
    intro x1 x2 x3 x4 t h
    rw [f_X7_mostAt_p17] at h
    refine e_iload (pc' := 19) (i := 4) rfl dX7_mostAt_17 rfl ?_
    refine e_aload_n (pc' := 20) (i := 0) rfl rfl dX7_mostAt_19 rfl ?_
    refine e_getR (a := 59) (b := 60) (k0 := 0) (pc' := 23) dX7_mostAt_20 rfl rfl (Nat.le_of_ble_eq_true rfl) (Nat.le_of_ble_eq_true rfl) rfl mw_794 rfl ?_
    refine e_iconst (v := 0) (pc' := 24) (by decide) dX7_mostAt_23 rfl ?_
    refine e_iald (n := 129) (pc' := 25) dX7_mostAt_24 rfl rfl (Nat.le_of_ble_eq_true rfl) h (fun h => ?_)
    refine e_icmp_ge (tgt := 62) (pc' := 28) dX7_mostAt_25 (by decide) rfl h (fun h => ?_) (fun h => ?_)
    · refine e_iload_n (pc' := 63) (i := 3) rfl rfl dX7_mostAt_62 rfl ?_
      refine e_iload_n (pc' := 64) (i := 1) rfl rfl dX7_mostAt_63 rfl ?_
      refine e_icmp_le (tgt := 71) (pc' := 67) dX7_mostAt_64 (by decide) rfl h (fun h => ?_) (fun h => ?_)
      · refine e_iload_n (pc' := 72) (i := 1) rfl rfl dX7_mostAt_71 rfl ?_
        refine e_istore_n (pc' := 73) (i := 1) (lc' := [some (.ref 59), some (.int x1), some (.int x2), some (.int x3), some (.int x4)]) rfl dX7_mostAt_72 rfl (Nat.le_of_ble_eq_true rfl) rfl rfl ?_
        refine e_iinc (pc' := 76) (v := (x2 + 1)) (lc' := [some (.ref 59), some (.int x1), some (.int (x2 + 1)), some (.int x3), some (.int x4)]) dX7_mostAt_73 rfl rfl rfl (Nat.le_of_ble_eq_true rfl) rfl rfl ?_
        refine e_goto (tgt := 4) dX7_mostAt_76 (by decide) ?_
        exact e_weak (lc' := [some (.ref 59), some (.int x1), some (.int (x2 + 1)), none, none]) (gle_s (gle_s (gle_s (gle_n (gle_n gle_0))))) (hk4 _ _ _ h)
      · refine e_iload_n (pc' := 68) (i := 3) rfl rfl dX7_mostAt_67 rfl ?_
        refine e_goto (tgt := 72) dX7_mostAt_68 (by decide) ?_
        refine e_istore_n (pc' := 73) (i := 1) (lc' := [some (.ref 59), some (.int x3), some (.int x2), some (.int x3), some (.int x4)]) rfl dX7_mostAt_72 rfl (Nat.le_of_ble_eq_true rfl) rfl rfl ?_
        refine e_iinc (pc' := 76) (v := (x2 + 1)) (lc' := [some (.ref 59), some (.int x3), some (.int (x2 + 1)), some (.int x3), some (.int x4)]) dX7_mostAt_73 rfl rfl rfl (Nat.le_of_ble_eq_true rfl) rfl rfl ?_
        refine e_goto (tgt := 4) dX7_mostAt_76 (by decide) ?_
        exact e_weak (lc' := [some (.ref 59), some (.int x3), some (.int (x2 + 1)), none, none]) (gle_s (gle_s (gle_s (gle_n (gle_n gle_0))))) (hk4 _ _ _ h)
    · refine e_iload_n (pc' := 29) (i := 3) rfl rfl dX7_mostAt_28 rfl ?_
      refine e_aload_n (pc' := 30) (i := 0) rfl rfl dX7_mostAt_29 rfl ?_
      refine e_getR (a := 59) (b := 66) (k0 := 12) (pc' := 33) dX7_mostAt_30 rfl rfl (Nat.le_of_ble_eq_true rfl) (Nat.le_of_ble_eq_true rfl) rfl mw_806 rfl ?_
      refine e_iload (pc' := 35) (i := 4) rfl dX7_mostAt_33 rfl ?_
      refine e_zald (n := 32) (pc' := 36) dX7_mostAt_35 rfl rfl (Nat.le_of_ble_eq_true rfl) h (fun h => ?_)
      refine e_if_eq (tgt := 53) (pc' := 39) dX7_mostAt_36 (by decide) rfl h (fun h => ?_) (fun h => ?_)
      · refine e_iconst (v := 0) (pc' := 54) (by decide) dX7_mostAt_53 rfl ?_
        refine e_iadd (pc' := 55) dX7_mostAt_54 rfl ?_
        refine e_istore_n (pc' := 56) (i := 3) (lc' := [some (.ref 59), some (.int x1), some (.int x2), some (.int (x3 + 0)), some (.int x4)]) rfl dX7_mostAt_55 rfl (Nat.le_of_ble_eq_true rfl) rfl rfl ?_
        refine e_iinc (pc' := 59) (v := (x4 + 1)) (lc' := [some (.ref 59), some (.int x1), some (.int x2), some (.int (x3 + 0)), some (.int (x4 + 1))]) dX7_mostAt_56 rfl rfl rfl (Nat.le_of_ble_eq_true rfl) rfl rfl ?_
        refine e_goto (tgt := 17) dX7_mostAt_59 (by decide) ?_
        exact e_weak (lc' := [some (.ref 59), some (.int x1), some (.int x2), some (.int (x3 + 0)), some (.int (x4 + 1))]) (gle_s (gle_s (gle_s (gle_s (gle_s gle_0))))) (ih _ _ _ _ _ h)
      · refine e_aload_n (pc' := 40) (i := 0) rfl rfl dX7_mostAt_39 rfl ?_
        refine e_iload_n (pc' := 41) (i := 2) rfl rfl dX7_mostAt_40 rfl ?_
        refine e_iload (pc' := 43) (i := 4) rfl dX7_mostAt_41 rfl ?_
        obtain ⟨v2, hF1, h⟩ := g_bd_e h
        refine e_callV_i (pc' := 46) dX7_mostAt_43 rfl mw_955 mv_X7_isOn rfl (Nat.le_of_ble_eq_true rfl) (Nat.le_of_ble_eq_true rfl) rfl (Nat.le_of_ble_eq_true rfl) (Nat.le_of_ble_eq_true rfl) rfl (c_X7_isOn _ _ hF1) rfl ?_
        refine e_if_eq (tgt := 53) (pc' := 49) dX7_mostAt_46 (by decide) rfl h (fun h => ?_) (fun h => ?_)
        · refine e_iconst (v := 0) (pc' := 54) (by decide) dX7_mostAt_53 rfl ?_
          refine e_iadd (pc' := 55) dX7_mostAt_54 rfl ?_
          refine e_istore_n (pc' := 56) (i := 3) (lc' := [some (.ref 59), some (.int x1), some (.int x2), some (.int (x3 + 0)), some (.int x4)]) rfl dX7_mostAt_55 rfl (Nat.le_of_ble_eq_true rfl) rfl rfl ?_
          refine e_iinc (pc' := 59) (v := (x4 + 1)) (lc' := [some (.ref 59), some (.int x1), some (.int x2), some (.int (x3 + 0)), some (.int (x4 + 1))]) dX7_mostAt_56 rfl rfl rfl (Nat.le_of_ble_eq_true rfl) rfl rfl ?_
          refine e_goto (tgt := 17) dX7_mostAt_59 (by decide) ?_
          exact e_weak (lc' := [some (.ref 59), some (.int x1), some (.int x2), some (.int (x3 + 0)), some (.int (x4 + 1))]) (gle_s (gle_s (gle_s (gle_s (gle_s gle_0))))) (ih _ _ _ _ _ h)
        · refine e_iconst (v := 1) (pc' := 50) (by decide) dX7_mostAt_49 rfl ?_
          refine e_goto (tgt := 54) dX7_mostAt_50 (by decide) ?_
          refine e_iadd (pc' := 55) dX7_mostAt_54 rfl ?_
          refine e_istore_n (pc' := 56) (i := 3) (lc' := [some (.ref 59), some (.int x1), some (.int x2), some (.int (x3 + 1)), some (.int x4)]) rfl dX7_mostAt_55 rfl (Nat.le_of_ble_eq_true rfl) rfl rfl ?_
          refine e_iinc (pc' := 59) (v := (x4 + 1)) (lc' := [some (.ref 59), some (.int x1), some (.int x2), some (.int (x3 + 1)), some (.int (x4 + 1))]) dX7_mostAt_56 rfl rfl rfl (Nat.le_of_ble_eq_true rfl) rfl rfl ?_
          refine e_goto (tgt := 17) dX7_mostAt_59 (by decide) ?_
          exact e_weak (lc' := [some (.ref 59), some (.int x1), some (.int x2), some (.int (x3 + 1)), some (.int (x4 + 1))]) (gle_s (gle_s (gle_s (gle_s (gle_s gle_0))))) (ih _ _ _ _ _ h)
set_option maxHeartbeats 4000000 in
set_option maxRecDepth 100000 in
theorem w_X7_mostAt_p4 (I : Nat → Int32) (A : Nat → Nat → Int32) (L : Nat → Int64) : ∀ (n : Nat) (x1 : Int32) (x2 : Int32) (t : Int32), f_X7_mostAt_p4 I A L n x1 x2 = some t → Ev 70 RX7 cX7_mostAt 5 (some .int) 1 4 [some (.ref 59), some (.int x1), some (.int x2), none, none] [] I A L (some (.int t), (I, A, L)) := by
  intro n
  induction n with
  | zero =>
    intro x1 x2 t h
    cases h
  | succ n ih =>
    intro x1 x2 t h
    rw [f_X7_mostAt_p4] at h
    refine e_iload_n (pc' := 5) (i := 2) rfl rfl dX7_mostAt_4 rfl ?_
    refine e_aload_n (pc' := 6) (i := 0) rfl rfl dX7_mostAt_5 rfl ?_
    refine e_getI (a := 59) (n := 955) (k0 := 11) (pc' := 9) dX7_mostAt_6 rfl rfl (Nat.le_of_ble_eq_true rfl) (Nat.le_of_ble_eq_true rfl) rfl mw_805 rfl ?_
    refine e_icmp_ge (tgt := 79) (pc' := 12) dX7_mostAt_9 (by decide) rfl h (fun h => ?_) (fun h => ?_)
    · refine e_iload_n (pc' := 80) (i := 1) rfl rfl dX7_mostAt_79 rfl ?_
      obtain rfl := g_re1 h
      exact e_iret dX7_mostAt_80
    · refine e_iconst (v := 0) (pc' := 13) (by decide) dX7_mostAt_12 rfl ?_
      refine e_istore_n (pc' := 14) (i := 3) (lc' := [some (.ref 59), some (.int x1), some (.int x2), some (.int 0), none]) rfl dX7_mostAt_13 rfl (Nat.le_of_ble_eq_true rfl) rfl rfl ?_
      refine e_iconst (v := 0) (pc' := 15) (by decide) dX7_mostAt_14 rfl ?_
      refine e_istore (pc' := 17) (i := 4) (lc' := [some (.ref 59), some (.int x1), some (.int x2), some (.int 0), some (.int 0)]) dX7_mostAt_15 rfl (Nat.le_of_ble_eq_true rfl) rfl rfl ?_
      exact e_weak (lc' := [some (.ref 59), some (.int x1), some (.int x2), some (.int 0), some (.int 0)]) (gle_s (gle_s (gle_s (gle_s (gle_s gle_0))))) (w_X7_mostAt_p17 I A L _ ih _ _ _ _ _ _ h)
set_option maxHeartbeats 4000000 in
set_option maxRecDepth 100000 in
theorem c_X7_mostAt  {I : Nat → Int32} {A : Nat → Nat → Int32} {L : Nat → Int64} {t : Int32} (h : f_X7_mostAt I A L  = some t) : GM 70 yX7_mostAt cX7_mostAt 5 (some .int) 1 [.ref 59] I A L (some (.int t), (I, A, L)) := by
  refine gm_of (n := 4) (lc := [some (.ref 59), none, none, none, none]) (by decide +kernel) rfl (fun _ => Nat.le_of_ble_eq_true rfl) ?_
  change Ev 70 RX7 cX7_mostAt 5 (some .int) 1 0 [some (.ref 59), none, none, none, none] [] I A L _
  unfold f_X7_mostAt at h
  refine e_iconst (v := 0) (pc' := 1) (by decide) dX7_mostAt_0 rfl ?_
  refine e_istore_n (pc' := 2) (i := 1) (lc' := [some (.ref 59), some (.int 0), none, none, none]) rfl dX7_mostAt_1 rfl (Nat.le_of_ble_eq_true rfl) rfl rfl ?_
  refine e_iconst (v := 0) (pc' := 3) (by decide) dX7_mostAt_2 rfl ?_
  refine e_istore_n (pc' := 4) (i := 2) (lc' := [some (.ref 59), some (.int 0), some (.int 0), none, none]) rfl dX7_mostAt_3 rfl (Nat.le_of_ble_eq_true rfl) rfl rfl ?_
  exact e_weak (lc' := [some (.ref 59), some (.int 0), some (.int 0), none, none]) (gle_s (gle_s (gle_s (gle_n (gle_n gle_0))))) (w_X7_mostAt_p4 I A L  _ _ _ _ h)
set_option maxHeartbeats 4000000 in
set_option maxRecDepth 100000 in
theorem c_X7_all (a0 : Int32) {I : Nat → Int32} {A : Nat → Nat → Int32} {L : Nat → Int64} {t : Int32} {I' : Nat → Int32} {A' : Nat → Nat → Int32} {L' : Nat → Int64} (h : f_X7_all  a0 I A L = some (t, I', A', L')) : GM 70 yX7_all cX7_all 2 (some .int) 5 [.ref 59, .int a0] I A L (some (.int t), (I', A', L')) := by
  refine gm_of (n := 0) (lc := [some (.ref 59), some (.int a0)]) (by decide +kernel) rfl (fun _ => Nat.le_of_ble_eq_true rfl) ?_
  change Ev 70 RX7 cX7_all 2 (some .int) 5 0 [some (.ref 59), some (.int a0)] [] I A L _
  unfold f_X7_all at h
  refine e_iload_n (pc' := 1) (i := 1) rfl rfl dX7_all_0 rfl ?_
  refine e_iconst (v := 0) (pc' := 2) (by decide) dX7_all_1 rfl ?_
  refine e_bipush (v := 6) (pc' := 4) (by decide) dX7_all_2 rfl ?_
  obtain ⟨v2, hF1, h⟩ := g_bd_e h
  refine e_callS_i (pc' := 7) dX7_all_4 rfl mw_851 ms_X7_in rfl (Nat.le_of_ble_eq_true rfl) (Nat.le_of_ble_eq_true rfl) (c_X7_in _ _ _ hF1) rfl ?_
  refine e_if_ne (tgt := 17) (pc' := 10) dX7_all_7 (by decide) rfl h (fun h => ?_) (fun h => ?_)
  · refine e_aload_n (pc' := 18) (i := 0) rfl rfl dX7_all_17 rfl ?_
    obtain ⟨I4, A5, L6, hF3, h⟩ := g_b1_e h
    refine e_callV_v (pc' := 21) dX7_all_18 rfl mw_924 mv_X7_lays rfl (Nat.le_of_ble_eq_true rfl) (Nat.le_of_ble_eq_true rfl) rfl (Nat.le_of_ble_eq_true rfl) (Nat.le_of_ble_eq_true rfl) rfl (c_X7_lays hF3) rfl ?_
    refine e_iload_n (pc' := 22) (i := 1) rfl rfl dX7_all_21 rfl ?_
    by_cases q7 : a0 = 0
    · rw [if_pos q7] at h
      refine e_swIn (off := 38) (tgt := 60) dX7_all_22 (by rw [q7]; decide) (by rw [q7]; decide) (by rw [q7]; rfl) (by decide) ?_
      refine e_aload_n (pc' := 61) (i := 0) rfl rfl dX7_all_60 rfl ?_
      refine e_getR (a := 59) (b := 60) (k0 := 0) (pc' := 64) dX7_all_61 rfl rfl (Nat.le_of_ble_eq_true rfl) (Nat.le_of_ble_eq_true rfl) rfl mw_794 rfl ?_
      refine e_iconst (v := 0) (pc' := 65) (by decide) dX7_all_64 rfl ?_
      refine e_iald (n := 129) (pc' := 66) dX7_all_65 rfl rfl (Nat.le_of_ble_eq_true rfl) h (fun h => ?_)
      obtain ⟨rfl, rfl, rfl, rfl⟩ := g_re4 h
      exact e_iret dX7_all_66
    rw [if_neg q7] at h
    by_cases q8 : a0 = 1
    · rw [if_pos q8] at h
      refine e_swIn (off := 45) (tgt := 67) dX7_all_22 (by rw [q8]; decide) (by rw [q8]; decide) (by rw [q8]; rfl) (by decide) ?_
      refine e_aload_n (pc' := 68) (i := 0) rfl rfl dX7_all_67 rfl ?_
      obtain ⟨v10, hF9, h⟩ := g_bd_e h
      refine e_callV_i (pc' := 71) dX7_all_68 rfl mw_991 mv_X7_showing rfl (Nat.le_of_ble_eq_true rfl) (Nat.le_of_ble_eq_true rfl) rfl (Nat.le_of_ble_eq_true rfl) (Nat.le_of_ble_eq_true rfl) rfl (c_X7_showing hF9) rfl ?_
      obtain ⟨rfl, rfl, rfl, rfl⟩ := g_re4 h
      exact e_iret dX7_all_71
    rw [if_neg q8] at h
    by_cases q11 : a0 = 2
    · rw [if_pos q11] at h
      refine e_swIn (off := 50) (tgt := 72) dX7_all_22 (by rw [q11]; decide) (by rw [q11]; decide) (by rw [q11]; rfl) (by decide) ?_
      refine e_aload_n (pc' := 73) (i := 0) rfl rfl dX7_all_72 rfl ?_
      refine e_getR (a := 59) (b := 60) (k0 := 0) (pc' := 76) dX7_all_73 rfl rfl (Nat.le_of_ble_eq_true rfl) (Nat.le_of_ble_eq_true rfl) rfl mw_794 rfl ?_
      refine e_iconst (v := 0) (pc' := 77) (by decide) dX7_all_76 rfl ?_
      refine e_iald (n := 129) (pc' := 78) dX7_all_77 rfl rfl (Nat.le_of_ble_eq_true rfl) h (fun h => ?_)
      refine e_aload_n (pc' := 79) (i := 0) rfl rfl dX7_all_78 rfl ?_
      obtain ⟨v13, hF12, h⟩ := g_bd_e h
      refine e_callV_i (pc' := 82) dX7_all_79 rfl mw_991 mv_X7_showing rfl (Nat.le_of_ble_eq_true rfl) (Nat.le_of_ble_eq_true rfl) rfl (Nat.le_of_ble_eq_true rfl) (Nat.le_of_ble_eq_true rfl) rfl (c_X7_showing hF12) rfl ?_
      refine e_isub (pc' := 83) dX7_all_82 rfl ?_
      obtain ⟨rfl, rfl, rfl, rfl⟩ := g_re4 h
      exact e_iret dX7_all_83
    rw [if_neg q11] at h
    by_cases q14 : a0 = 3
    · rw [if_pos q14] at h
      refine e_swIn (off := 62) (tgt := 84) dX7_all_22 (by rw [q14]; decide) (by rw [q14]; decide) (by rw [q14]; rfl) (by decide) ?_
      refine e_aload_n (pc' := 85) (i := 0) rfl rfl dX7_all_84 rfl ?_
      refine e_getI (a := 59) (n := 955) (k0 := 11) (pc' := 88) dX7_all_85 rfl rfl (Nat.le_of_ble_eq_true rfl) (Nat.le_of_ble_eq_true rfl) rfl mw_805 rfl ?_
      obtain ⟨rfl, rfl, rfl, rfl⟩ := g_re4 h
      exact e_iret dX7_all_88
    rw [if_neg q14] at h
    by_cases q15 : a0 = 4
    · rw [if_pos q15] at h
      refine e_swIn (off := 67) (tgt := 89) dX7_all_22 (by rw [q15]; decide) (by rw [q15]; decide) (by rw [q15]; rfl) (by decide) ?_
      refine e_aload_n (pc' := 90) (i := 0) rfl rfl dX7_all_89 rfl ?_
      obtain ⟨v17, hF16, h⟩ := g_bd_e h
      refine e_callV_i (pc' := 93) dX7_all_90 rfl mw_995 mv_X7_edges rfl (Nat.le_of_ble_eq_true rfl) (Nat.le_of_ble_eq_true rfl) rfl (Nat.le_of_ble_eq_true rfl) (Nat.le_of_ble_eq_true rfl) rfl (c_X7_edges hF16) rfl ?_
      obtain ⟨rfl, rfl, rfl, rfl⟩ := g_re4 h
      exact e_iret dX7_all_93
    rw [if_neg q15] at h
    by_cases q18 : a0 = 5
    · rw [if_pos q18] at h
      refine e_swIn (off := 72) (tgt := 94) dX7_all_22 (by rw [q18]; decide) (by rw [q18]; decide) (by rw [q18]; rfl) (by decide) ?_
      refine e_aload_n (pc' := 95) (i := 0) rfl rfl dX7_all_94 rfl ?_
      obtain ⟨v20, hF19, h⟩ := g_bd_e h
      refine e_callV_i (pc' := 98) dX7_all_95 rfl mw_999 mv_X7_mostOn rfl (Nat.le_of_ble_eq_true rfl) (Nat.le_of_ble_eq_true rfl) rfl (Nat.le_of_ble_eq_true rfl) (Nat.le_of_ble_eq_true rfl) rfl (c_X7_mostOn hF19) rfl ?_
      obtain ⟨rfl, rfl, rfl, rfl⟩ := g_re4 h
      exact e_iret dX7_all_98
    rw [if_neg q18] at h
    refine e_swOut (tgt := 99) dX7_all_22 (g_swo5 q7 q8 q11 q14 q15 q18) (by decide) ?_
    refine e_aload_n (pc' := 100) (i := 0) rfl rfl dX7_all_99 rfl ?_
    obtain ⟨v22, hF21, h⟩ := g_bd_e h
    refine e_callV_i (pc' := 103) dX7_all_100 rfl mw_1003 mv_X7_mostAt rfl (Nat.le_of_ble_eq_true rfl) (Nat.le_of_ble_eq_true rfl) rfl (Nat.le_of_ble_eq_true rfl) (Nat.le_of_ble_eq_true rfl) rfl (c_X7_mostAt hF21) rfl ?_
    obtain ⟨rfl, rfl, rfl, rfl⟩ := g_re4 h
    exact e_iret dX7_all_103
  · refine e_aload_n (pc' := 11) (i := 0) rfl rfl dX7_all_10 rfl ?_
    refine e_bipush (v := (-2)) (pc' := 13) (by decide) dX7_all_11 rfl ?_
    obtain ⟨v27, I24, A25, L26, hF23, h⟩ := g_b2_e h
    refine e_callV_i (pc' := 16) dX7_all_13 rfl mw_854 mv_X7_refuses rfl (Nat.le_of_ble_eq_true rfl) (Nat.le_of_ble_eq_true rfl) rfl (Nat.le_of_ble_eq_true rfl) (Nat.le_of_ble_eq_true rfl) rfl (c_X7_refuses _ hF23) rfl ?_
    obtain ⟨rfl, rfl, rfl, rfl⟩ := g_re4 h
    exact e_iret dX7_all_16
set_option maxHeartbeats 4000000 in
set_option maxRecDepth 100000 in
theorem c_X7_fraction (a0 : Int32) (a1 : Int32) {I : Nat → Int32} {A : Nat → Nat → Int32} {L : Nat → Int64} {I' : Nat → Int32} {A' : Nat → Nat → Int32} {L' : Nat → Int64} (h : f_X7_fraction  a0 a1 I A L = some (I', A', L')) : GM 70 yX7_fraction cX7_fraction 4 none 1 [.ref 59, .int a0, .int a1] I A L (none, (I', A', L')) := by
  refine gm_of (n := 1) (lc := [some (.ref 59), some (.int a0), some (.int a1), none]) (by decide +kernel) rfl (fun _ => Nat.le_of_ble_eq_true rfl) ?_
  change Ev 70 RX7 cX7_fraction 4 none 1 0 [some (.ref 59), some (.int a0), some (.int a1), none] [] I A L _
  unfold f_X7_fraction at h
  refine e_iload_n (pc' := 1) (i := 1) rfl rfl dX7_fraction_0 rfl ?_
  refine e_iload_n (pc' := 2) (i := 2) rfl rfl dX7_fraction_1 rfl ?_
  obtain ⟨v2, hF1, h⟩ := g_bd_e h
  refine e_callS_i (pc' := 5) dX7_fraction_2 rfl mw_936 ms_X7_common rfl (Nat.le_of_ble_eq_true rfl) (Nat.le_of_ble_eq_true rfl) (c_X7_common _ _ hF1) rfl ?_
  refine e_istore_n (pc' := 6) (i := 3) (lc' := [some (.ref 59), some (.int a0), some (.int a1), some (.int v2)]) rfl dX7_fraction_5 rfl (Nat.le_of_ble_eq_true rfl) rfl rfl ?_
  refine e_aload_n (pc' := 7) (i := 0) rfl rfl dX7_fraction_6 rfl ?_
  refine e_iload_n (pc' := 8) (i := 1) rfl rfl dX7_fraction_7 rfl ?_
  refine e_iload_n (pc' := 9) (i := 3) rfl rfl dX7_fraction_8 rfl ?_
  obtain ⟨hz3, h⟩ := g_dv_e h
  refine e_idiv (pc' := 10) hz3 dX7_fraction_9 rfl ?_
  refine e_i2l (pc' := 11) dX7_fraction_10 rfl ?_
  refine e_putL (a := 59) (n := 952) (k0 := 8) (pc' := 14) dX7_fraction_11 rfl rfl (Nat.le_of_ble_eq_true rfl) (Nat.le_of_ble_eq_true rfl) rfl mw_802 rfl rfl g_pJ rfl rfl ?_
  refine e_ltL h (fun L4 h => ?_)
  refine e_aload_n (pc' := 15) (i := 0) rfl rfl dX7_fraction_14 rfl ?_
  refine e_iload_n (pc' := 16) (i := 2) rfl rfl dX7_fraction_15 rfl ?_
  refine e_iload_n (pc' := 17) (i := 3) rfl rfl dX7_fraction_16 rfl ?_
  obtain ⟨hz5, h⟩ := g_dv_e h
  refine e_idiv (pc' := 18) hz5 dX7_fraction_17 rfl ?_
  refine e_i2l (pc' := 19) dX7_fraction_18 rfl ?_
  refine e_putL (a := 59) (n := 953) (k0 := 9) (pc' := 22) dX7_fraction_19 rfl rfl (Nat.le_of_ble_eq_true rfl) (Nat.le_of_ble_eq_true rfl) rfl mw_803 rfl rfl g_pJ rfl rfl ?_
  refine e_ltL h (fun L6 h => ?_)
  obtain ⟨rfl, rfl, rfl⟩ := g_re3 h
  exact e_vret dX7_fraction_22
set_option maxHeartbeats 4000000 in
set_option maxRecDepth 100000 in
theorem w_X7_corner_p13  : ∀ (I : Nat → Int32) (A : Nat → Nat → Int32) (L : Nat → Int64) (t : (Int32 × gS)), f_X7_corner_p13 I A L = some t → Ev 70 RX7 cX7_corner 3 (some .int) 4 13 [some (.ref 59), none, none] [] I A L (some (.int t.1), t.2) := by
  intro  I A L t h
  unfold f_X7_corner_p13 at h
  refine e_aload_n (pc' := 14) (i := 0) rfl rfl dX7_corner_13 rfl ?_
  refine e_bipush (v := (-2)) (pc' := 16) (by decide) dX7_corner_14 rfl ?_
  obtain ⟨v5, I2, A3, L4, hF1, h⟩ := g_b2_e h
  refine e_callV_i (pc' := 19) dX7_corner_16 rfl mw_854 mv_X7_refuses rfl (Nat.le_of_ble_eq_true rfl) (Nat.le_of_ble_eq_true rfl) rfl (Nat.le_of_ble_eq_true rfl) (Nat.le_of_ble_eq_true rfl) rfl (c_X7_refuses _ hF1) rfl ?_
  obtain rfl := g_re1 h
  exact e_iret dX7_corner_19
set_option maxHeartbeats 4000000 in
set_option maxRecDepth 100000 in
theorem c_X7_corner (a0 : Int32) (a1 : Int32) {I : Nat → Int32} {A : Nat → Nat → Int32} {L : Nat → Int64} {t : Int32} {I' : Nat → Int32} {A' : Nat → Nat → Int32} {L' : Nat → Int64} (h : f_X7_corner  a0 a1 I A L = some (t, I', A', L')) : GM 70 yX7_corner cX7_corner 3 (some .int) 4 [.ref 59, .int a0, .int a1] I A L (some (.int t), (I', A', L')) := by
  refine gm_of (n := 0) (lc := [some (.ref 59), some (.int a0), some (.int a1)]) (by decide +kernel) rfl (fun _ => Nat.le_of_ble_eq_true rfl) ?_
  change Ev 70 RX7 cX7_corner 3 (some .int) 4 0 [some (.ref 59), some (.int a0), some (.int a1)] [] I A L _
  unfold f_X7_corner at h
  refine e_iload_n (pc' := 1) (i := 1) rfl rfl dX7_corner_0 rfl ?_
  refine e_if_lt (tgt := 13) (pc' := 4) dX7_corner_1 (by decide) rfl h (fun h => ?_) (fun h => ?_)
  · exact e_weak (lc' := [some (.ref 59), none, none]) (gle_s (gle_n (gle_n gle_0))) (w_X7_corner_p13  _ _ _ _ h)
  · refine e_iload_n (pc' := 5) (i := 2) rfl rfl dX7_corner_4 rfl ?_
    refine e_iconst (v := 0) (pc' := 6) (by decide) dX7_corner_5 rfl ?_
    refine e_iconst (v := 2) (pc' := 7) (by decide) dX7_corner_6 rfl ?_
    obtain ⟨v2, hF1, h⟩ := g_bd_e h
    refine e_callS_i (pc' := 10) dX7_corner_7 rfl mw_851 ms_X7_in rfl (Nat.le_of_ble_eq_true rfl) (Nat.le_of_ble_eq_true rfl) (c_X7_in _ _ _ hF1) rfl ?_
    refine e_if_ne (tgt := 20) (pc' := 13) dX7_corner_10 (by decide) rfl h (fun h => ?_) (fun h => ?_)
    · refine e_aload_n (pc' := 21) (i := 0) rfl rfl dX7_corner_20 rfl ?_
      obtain ⟨I4, A5, L6, hF3, h⟩ := g_b1_e h
      refine e_callV_v (pc' := 24) dX7_corner_21 rfl mw_924 mv_X7_lays rfl (Nat.le_of_ble_eq_true rfl) (Nat.le_of_ble_eq_true rfl) rfl (Nat.le_of_ble_eq_true rfl) (Nat.le_of_ble_eq_true rfl) rfl (c_X7_lays hF3) rfl ?_
      refine e_iload_n (pc' := 25) (i := 1) rfl rfl dX7_corner_24 rfl ?_
      refine e_aload_n (pc' := 26) (i := 0) rfl rfl dX7_corner_25 rfl ?_
      refine e_getI (a := 59) (n := 955) (k0 := 11) (pc' := 29) dX7_corner_26 rfl rfl (Nat.le_of_ble_eq_true rfl) (Nat.le_of_ble_eq_true rfl) rfl mw_805 rfl ?_
      refine e_icmp_lt (tgt := 39) (pc' := 32) dX7_corner_29 (by decide) rfl h (fun h => ?_) (fun h => ?_)
      · refine e_aload_n (pc' := 40) (i := 0) rfl rfl dX7_corner_39 rfl ?_
        refine e_aload_n (pc' := 41) (i := 0) rfl rfl dX7_corner_40 rfl ?_
        refine e_getR (a := 59) (b := 65) (k0 := 10) (pc' := 44) dX7_corner_41 rfl rfl (Nat.le_of_ble_eq_true rfl) (Nat.le_of_ble_eq_true rfl) rfl mw_804 rfl ?_
        refine e_iconst (v := 5) (pc' := 45) (by decide) dX7_corner_44 rfl ?_
        refine e_iload_n (pc' := 46) (i := 1) rfl rfl dX7_corner_45 rfl ?_
        refine e_imul (pc' := 47) dX7_corner_46 rfl ?_
        refine e_iload_n (pc' := 48) (i := 2) rfl rfl dX7_corner_47 rfl ?_
        refine e_iadd (pc' := 49) dX7_corner_48 rfl ?_
        refine e_iald (n := 320) (pc' := 50) dX7_corner_49 rfl rfl (Nat.le_of_ble_eq_true rfl) h (fun h => ?_)
        refine e_aload_n (pc' := 51) (i := 0) rfl rfl dX7_corner_50 rfl ?_
        refine e_getR (a := 59) (b := 65) (k0 := 10) (pc' := 54) dX7_corner_51 rfl rfl (Nat.le_of_ble_eq_true rfl) (Nat.le_of_ble_eq_true rfl) rfl mw_804 rfl ?_
        refine e_iconst (v := 5) (pc' := 55) (by decide) dX7_corner_54 rfl ?_
        refine e_iload_n (pc' := 56) (i := 1) rfl rfl dX7_corner_55 rfl ?_
        refine e_imul (pc' := 57) dX7_corner_56 rfl ?_
        refine e_iconst (v := 3) (pc' := 58) (by decide) dX7_corner_57 rfl ?_
        refine e_iadd (pc' := 59) dX7_corner_58 rfl ?_
        refine e_iald (n := 320) (pc' := 60) dX7_corner_59 rfl rfl (Nat.le_of_ble_eq_true rfl) h (fun h => ?_)
        obtain ⟨I8, A9, L10, hF7, h⟩ := g_b1_e h
        refine e_callV_v (pc' := 63) dX7_corner_60 rfl mw_1011 mv_X7_fraction rfl (Nat.le_of_ble_eq_true rfl) (Nat.le_of_ble_eq_true rfl) rfl (Nat.le_of_ble_eq_true rfl) (Nat.le_of_ble_eq_true rfl) rfl (c_X7_fraction _ _ hF7) rfl ?_
        refine e_iconst (v := 1) (pc' := 64) (by decide) dX7_corner_63 rfl ?_
        obtain ⟨rfl, rfl, rfl, rfl⟩ := g_re4 h
        exact e_iret dX7_corner_64
      · refine e_aload_n (pc' := 33) (i := 0) rfl rfl dX7_corner_32 rfl ?_
        refine e_bipush (v := (-3)) (pc' := 35) (by decide) dX7_corner_33 rfl ?_
        obtain ⟨v15, I12, A13, L14, hF11, h⟩ := g_b2_e h
        refine e_callV_i (pc' := 38) dX7_corner_35 rfl mw_854 mv_X7_refuses rfl (Nat.le_of_ble_eq_true rfl) (Nat.le_of_ble_eq_true rfl) rfl (Nat.le_of_ble_eq_true rfl) (Nat.le_of_ble_eq_true rfl) rfl (c_X7_refuses _ hF11) rfl ?_
        obtain ⟨rfl, rfl, rfl, rfl⟩ := g_re4 h
        exact e_iret dX7_corner_38
    · exact e_weak (lc' := [some (.ref 59), none, none]) (gle_s (gle_n (gle_n gle_0))) (w_X7_corner_p13  _ _ _ _ h)
set_option maxHeartbeats 4000000 in
set_option maxRecDepth 100000 in
theorem w_X7_meets_p39  : ∀ (n : Nat) (x1 : Int32) (x2 : Int32) (x3 : Int32) (x4 : Int32) (I : Nat → Int32) (A : Nat → Nat → Int32) (L : Nat → Int64) (t : (Int32 × gS)), f_X7_meets_p39 n x1 x2 x3 x4 I A L = some t → Ev 70 RX7 cX7_meets 5 (some .int) 4 39 [some (.ref 59), some (.int x1), some (.int x2), some (.int x3), some (.int x4)] [] I A L (some (.int t.1), t.2) := by
  intro n
  induction n with
  | zero =>
    intro x1 x2 x3 x4 I A L t h
    cases h
  | succ n ih =>
    intro x1 x2 x3 x4 I A L t h
    rw [f_X7_meets_p39] at h
    refine e_iload (pc' := 41) (i := 4) rfl dX7_meets_39 rfl ?_
    refine e_aload_n (pc' := 42) (i := 0) rfl rfl dX7_meets_41 rfl ?_
    refine e_getR (a := 59) (b := 60) (k0 := 0) (pc' := 45) dX7_meets_42 rfl rfl (Nat.le_of_ble_eq_true rfl) (Nat.le_of_ble_eq_true rfl) rfl mw_794 rfl ?_
    refine e_iconst (v := 0) (pc' := 46) (by decide) dX7_meets_45 rfl ?_
    refine e_iald (n := 129) (pc' := 47) dX7_meets_46 rfl rfl (Nat.le_of_ble_eq_true rfl) h (fun h => ?_)
    refine e_icmp_ge (tgt := 74) (pc' := 50) dX7_meets_47 (by decide) rfl h (fun h => ?_) (fun h => ?_)
    · refine e_iload_n (pc' := 75) (i := 2) rfl rfl dX7_meets_74 rfl ?_
      refine e_if_ne (tgt := 82) (pc' := 78) dX7_meets_75 (by decide) rfl h (fun h => ?_) (fun h => ?_)
      · refine e_aload_n (pc' := 83) (i := 0) rfl rfl dX7_meets_82 rfl ?_
        refine e_getR (a := 59) (b := 65) (k0 := 10) (pc' := 86) dX7_meets_83 rfl rfl (Nat.le_of_ble_eq_true rfl) (Nat.le_of_ble_eq_true rfl) rfl mw_804 rfl ?_
        refine e_iconst (v := 5) (pc' := 87) (by decide) dX7_meets_86 rfl ?_
        refine e_iload_n (pc' := 88) (i := 1) rfl rfl dX7_meets_87 rfl ?_
        refine e_imul (pc' := 89) dX7_meets_88 rfl ?_
        refine e_iconst (v := 4) (pc' := 90) (by decide) dX7_meets_89 rfl ?_
        refine e_iadd (pc' := 91) dX7_meets_90 rfl ?_
        refine e_iald (n := 320) (pc' := 92) dX7_meets_91 rfl rfl (Nat.le_of_ble_eq_true rfl) h (fun h => ?_)
        obtain rfl := g_re1 h
        exact e_iret dX7_meets_92
      · refine e_iload_n (pc' := 79) (i := 3) rfl rfl dX7_meets_78 rfl ?_
        refine e_goto (tgt := 92) dX7_meets_79 (by decide) ?_
        obtain rfl := g_re1 h
        exact e_iret dX7_meets_92
    · refine e_iload_n (pc' := 51) (i := 3) rfl rfl dX7_meets_50 rfl ?_
      refine e_aload_n (pc' := 52) (i := 0) rfl rfl dX7_meets_51 rfl ?_
      refine e_iload_n (pc' := 53) (i := 1) rfl rfl dX7_meets_52 rfl ?_
      refine e_iload (pc' := 55) (i := 4) rfl dX7_meets_53 rfl ?_
      obtain ⟨v2, hF1, h⟩ := g_bd_e h
      refine e_callV_i (pc' := 58) dX7_meets_55 rfl mw_955 mv_X7_isOn rfl (Nat.le_of_ble_eq_true rfl) (Nat.le_of_ble_eq_true rfl) rfl (Nat.le_of_ble_eq_true rfl) (Nat.le_of_ble_eq_true rfl) rfl (c_X7_isOn _ _ hF1) rfl ?_
      refine e_if_eq (tgt := 65) (pc' := 61) dX7_meets_58 (by decide) rfl h (fun h => ?_) (fun h => ?_)
      · refine e_iconst (v := 0) (pc' := 66) (by decide) dX7_meets_65 rfl ?_
        refine e_iadd (pc' := 67) dX7_meets_66 rfl ?_
        refine e_istore_n (pc' := 68) (i := 3) (lc' := [some (.ref 59), some (.int x1), some (.int x2), some (.int (x3 + 0)), some (.int x4)]) rfl dX7_meets_67 rfl (Nat.le_of_ble_eq_true rfl) rfl rfl ?_
        refine e_iinc (pc' := 71) (v := (x4 + 1)) (lc' := [some (.ref 59), some (.int x1), some (.int x2), some (.int (x3 + 0)), some (.int (x4 + 1))]) dX7_meets_68 rfl rfl rfl (Nat.le_of_ble_eq_true rfl) rfl rfl ?_
        refine e_goto (tgt := 39) dX7_meets_71 (by decide) ?_
        exact e_weak (lc' := [some (.ref 59), some (.int x1), some (.int x2), some (.int (x3 + 0)), some (.int (x4 + 1))]) (gle_s (gle_s (gle_s (gle_s (gle_s gle_0))))) (ih _ _ _ _ _ _ _ _ h)
      · refine e_iconst (v := 1) (pc' := 62) (by decide) dX7_meets_61 rfl ?_
        refine e_goto (tgt := 66) dX7_meets_62 (by decide) ?_
        refine e_iadd (pc' := 67) dX7_meets_66 rfl ?_
        refine e_istore_n (pc' := 68) (i := 3) (lc' := [some (.ref 59), some (.int x1), some (.int x2), some (.int (x3 + 1)), some (.int x4)]) rfl dX7_meets_67 rfl (Nat.le_of_ble_eq_true rfl) rfl rfl ?_
        refine e_iinc (pc' := 71) (v := (x4 + 1)) (lc' := [some (.ref 59), some (.int x1), some (.int x2), some (.int (x3 + 1)), some (.int (x4 + 1))]) dX7_meets_68 rfl rfl rfl (Nat.le_of_ble_eq_true rfl) rfl rfl ?_
        refine e_goto (tgt := 39) dX7_meets_71 (by decide) ?_
        exact e_weak (lc' := [some (.ref 59), some (.int x1), some (.int x2), some (.int (x3 + 1)), some (.int (x4 + 1))]) (gle_s (gle_s (gle_s (gle_s (gle_s gle_0))))) (ih _ _ _ _ _ _ _ _ h)
set_option maxHeartbeats 4000000 in
set_option maxRecDepth 100000 in
theorem w_X7_meets_p13  : ∀ (I : Nat → Int32) (A : Nat → Nat → Int32) (L : Nat → Int64) (t : (Int32 × gS)), f_X7_meets_p13 I A L = some t → Ev 70 RX7 cX7_meets 5 (some .int) 4 13 [some (.ref 59), none, none, none, none] [] I A L (some (.int t.1), t.2) := by
  intro  I A L t h
  unfold f_X7_meets_p13 at h
  refine e_aload_n (pc' := 14) (i := 0) rfl rfl dX7_meets_13 rfl ?_
  refine e_bipush (v := (-2)) (pc' := 16) (by decide) dX7_meets_14 rfl ?_
  obtain ⟨v5, I2, A3, L4, hF1, h⟩ := g_b2_e h
  refine e_callV_i (pc' := 19) dX7_meets_16 rfl mw_854 mv_X7_refuses rfl (Nat.le_of_ble_eq_true rfl) (Nat.le_of_ble_eq_true rfl) rfl (Nat.le_of_ble_eq_true rfl) (Nat.le_of_ble_eq_true rfl) rfl (c_X7_refuses _ hF1) rfl ?_
  obtain rfl := g_re1 h
  exact e_iret dX7_meets_19
set_option maxHeartbeats 4000000 in
set_option maxRecDepth 100000 in
theorem c_X7_meets (a0 : Int32) (a1 : Int32) {I : Nat → Int32} {A : Nat → Nat → Int32} {L : Nat → Int64} {t : Int32} {I' : Nat → Int32} {A' : Nat → Nat → Int32} {L' : Nat → Int64} (h : f_X7_meets  a0 a1 I A L = some (t, I', A', L')) : GM 70 yX7_meets cX7_meets 5 (some .int) 4 [.ref 59, .int a0, .int a1] I A L (some (.int t), (I', A', L')) := by
  refine gm_of (n := 2) (lc := [some (.ref 59), some (.int a0), some (.int a1), none, none]) (by decide +kernel) rfl (fun _ => Nat.le_of_ble_eq_true rfl) ?_
  change Ev 70 RX7 cX7_meets 5 (some .int) 4 0 [some (.ref 59), some (.int a0), some (.int a1), none, none] [] I A L _
  unfold f_X7_meets at h
  refine e_iload_n (pc' := 1) (i := 1) rfl rfl dX7_meets_0 rfl ?_
  refine e_if_lt (tgt := 13) (pc' := 4) dX7_meets_1 (by decide) rfl h (fun h => ?_) (fun h => ?_)
  · exact e_weak (lc' := [some (.ref 59), none, none, none, none]) (gle_s (gle_n (gle_n (gle_n (gle_n gle_0))))) (w_X7_meets_p13  _ _ _ _ h)
  · refine e_iload_n (pc' := 5) (i := 2) rfl rfl dX7_meets_4 rfl ?_
    refine e_iconst (v := 0) (pc' := 6) (by decide) dX7_meets_5 rfl ?_
    refine e_iconst (v := 1) (pc' := 7) (by decide) dX7_meets_6 rfl ?_
    obtain ⟨v2, hF1, h⟩ := g_bd_e h
    refine e_callS_i (pc' := 10) dX7_meets_7 rfl mw_851 ms_X7_in rfl (Nat.le_of_ble_eq_true rfl) (Nat.le_of_ble_eq_true rfl) (c_X7_in _ _ _ hF1) rfl ?_
    refine e_if_ne (tgt := 20) (pc' := 13) dX7_meets_10 (by decide) rfl h (fun h => ?_) (fun h => ?_)
    · refine e_aload_n (pc' := 21) (i := 0) rfl rfl dX7_meets_20 rfl ?_
      obtain ⟨I4, A5, L6, hF3, h⟩ := g_b1_e h
      refine e_callV_v (pc' := 24) dX7_meets_21 rfl mw_924 mv_X7_lays rfl (Nat.le_of_ble_eq_true rfl) (Nat.le_of_ble_eq_true rfl) rfl (Nat.le_of_ble_eq_true rfl) (Nat.le_of_ble_eq_true rfl) rfl (c_X7_lays hF3) rfl ?_
      refine e_iload_n (pc' := 25) (i := 1) rfl rfl dX7_meets_24 rfl ?_
      refine e_aload_n (pc' := 26) (i := 0) rfl rfl dX7_meets_25 rfl ?_
      refine e_getI (a := 59) (n := 955) (k0 := 11) (pc' := 29) dX7_meets_26 rfl rfl (Nat.le_of_ble_eq_true rfl) (Nat.le_of_ble_eq_true rfl) rfl mw_805 rfl ?_
      refine e_icmp_lt (tgt := 34) (pc' := 32) dX7_meets_29 (by decide) rfl h (fun h => ?_) (fun h => ?_)
      · refine e_iconst (v := 0) (pc' := 35) (by decide) dX7_meets_34 rfl ?_
        refine e_istore_n (pc' := 36) (i := 3) (lc' := [some (.ref 59), some (.int a0), some (.int a1), some (.int 0), none]) rfl dX7_meets_35 rfl (Nat.le_of_ble_eq_true rfl) rfl rfl ?_
        refine e_iconst (v := 0) (pc' := 37) (by decide) dX7_meets_36 rfl ?_
        refine e_istore (pc' := 39) (i := 4) (lc' := [some (.ref 59), some (.int a0), some (.int a1), some (.int 0), some (.int 0)]) dX7_meets_37 rfl (Nat.le_of_ble_eq_true rfl) rfl rfl ?_
        exact e_weak (lc' := [some (.ref 59), some (.int a0), some (.int a1), some (.int 0), some (.int 0)]) (gle_s (gle_s (gle_s (gle_s (gle_s gle_0))))) (w_X7_meets_p39  _ _ _ _ _ _ _ _ _ h)
      · refine e_iconst (v := (-1)) (pc' := 33) (by decide) dX7_meets_32 rfl ?_
        obtain ⟨rfl, rfl, rfl, rfl⟩ := g_re4 h
        exact e_iret dX7_meets_33
    · exact e_weak (lc' := [some (.ref 59), none, none, none, none]) (gle_s (gle_n (gle_n (gle_n (gle_n gle_0))))) (w_X7_meets_p13  _ _ _ _ h)
set_option maxHeartbeats 4000000 in
set_option maxRecDepth 100000 in
theorem c_X7_part (a0 : Int32) {I : Nat → Int32} {A : Nat → Nat → Int32} {L : Nat → Int64} {t : Int64} {I' : Nat → Int32} {A' : Nat → Nat → Int32} {L' : Nat → Int64} (h : f_X7_part  a0 I A L = some (t, I', A', L')) : GM 70 yX7_part cX7_part 2 (some .long) 1 [.ref 59, .int a0] I A L (some (.long t), (I', A', L')) := by
  refine gm_of (n := 0) (lc := [some (.ref 59), some (.int a0)]) (by decide +kernel) rfl (fun _ => Nat.le_of_ble_eq_true rfl) ?_
  change Ev 70 RX7 cX7_part 2 (some .long) 1 0 [some (.ref 59), some (.int a0)] [] I A L _
  unfold f_X7_part at h
  refine e_iload_n (pc' := 1) (i := 1) rfl rfl dX7_part_0 rfl ?_
  refine e_if_ne (tgt := 11) (pc' := 4) dX7_part_1 (by decide) rfl h (fun h => ?_) (fun h => ?_)
  · refine e_iload_n (pc' := 12) (i := 1) rfl rfl dX7_part_11 rfl ?_
    refine e_iconst (v := 1) (pc' := 13) (by decide) dX7_part_12 rfl ?_
    refine e_icmp_ne (tgt := 23) (pc' := 16) dX7_part_13 (by decide) rfl h (fun h => ?_) (fun h => ?_)
    · refine e_aload_n (pc' := 24) (i := 0) rfl rfl dX7_part_23 rfl ?_
      refine e_ldc (pc' := 26) mw_1023 dX7_part_24 rfl ?_
      obtain ⟨v5, I2, A3, L4, hF1, h⟩ := g_b2_e h
      refine e_callV_i (pc' := 29) dX7_part_26 rfl mw_967 mv_X7_bad rfl (Nat.le_of_ble_eq_true rfl) (Nat.le_of_ble_eq_true rfl) rfl (Nat.le_of_ble_eq_true rfl) (Nat.le_of_ble_eq_true rfl) rfl (c_X7_bad _ hF1) rfl ?_
      refine e_i2l (pc' := 30) dX7_part_29 rfl ?_
      obtain ⟨rfl, rfl, rfl, rfl⟩ := g_re4 h
      exact e_lret dX7_part_30
    · refine e_aload_n (pc' := 17) (i := 0) rfl rfl dX7_part_16 rfl ?_
      refine e_getL (a := 59) (n := 953) (k0 := 9) (pc' := 20) dX7_part_17 rfl rfl (Nat.le_of_ble_eq_true rfl) (Nat.le_of_ble_eq_true rfl) rfl mw_803 rfl ?_
      refine e_goto (tgt := 30) dX7_part_20 (by decide) ?_
      obtain ⟨rfl, rfl, rfl, rfl⟩ := g_re4 h
      exact e_lret dX7_part_30
  · refine e_aload_n (pc' := 5) (i := 0) rfl rfl dX7_part_4 rfl ?_
    refine e_getL (a := 59) (n := 952) (k0 := 8) (pc' := 8) dX7_part_5 rfl rfl (Nat.le_of_ble_eq_true rfl) (Nat.le_of_ble_eq_true rfl) rfl mw_802 rfl ?_
    refine e_goto (tgt := 30) dX7_part_8 (by decide) ?_
    obtain ⟨rfl, rfl, rfl, rfl⟩ := g_re4 h
    exact e_lret dX7_part_30
set_option maxHeartbeats 4000000 in
set_option maxRecDepth 100000 in
theorem w_X7_edge_p215  : ∀ (x3 : Int32) (x4 : Int32) (x5 : Int32) (x6 : Int32) (s0 : Int32) (I : Nat → Int32) (A : Nat → Nat → Int32) (L : Nat → Int64) (t : (Int32 × gS)), f_X7_edge_p215 x3 x4 x5 x6 s0 I A L = some t → Ev 70 RX7 cX7_edge 8 (some .int) 4 215 [none, none, none, some (.int x3), some (.int x4), some (.int x5), some (.int x6), none] [.int s0] I A L (some (.int t.1), t.2) := by
  intro x3 x4 x5 x6 s0 I A L t h
  unfold f_X7_edge_p215 at h
  refine e_istore (pc' := 217) (i := 7) (lc' := [none, none, none, some (.int x3), some (.int x4), some (.int x5), some (.int x6), some (.int s0)]) dX7_edge_215 rfl (Nat.le_of_ble_eq_true rfl) rfl rfl ?_
  refine e_iload_n (pc' := 218) (i := 3) rfl rfl dX7_edge_217 rfl ?_
  refine e_iconst (v := 1) (pc' := 219) (by decide) dX7_edge_218 rfl ?_
  refine e_icmp_ne (tgt := 227) (pc' := 222) dX7_edge_219 (by decide) rfl h (fun h => ?_) (fun h => ?_)
  · refine e_iload_n (pc' := 228) (i := 3) rfl rfl dX7_edge_227 rfl ?_
    refine e_iconst (v := 2) (pc' := 229) (by decide) dX7_edge_228 rfl ?_
    refine e_icmp_ne (tgt := 237) (pc' := 232) dX7_edge_229 (by decide) rfl h (fun h => ?_) (fun h => ?_)
    · refine e_iload (pc' := 239) (i := 6) rfl dX7_edge_237 rfl ?_
      refine e_iload (pc' := 241) (i := 7) rfl dX7_edge_239 rfl ?_
      obtain ⟨hz1, h⟩ := g_dv_e h
      refine e_idiv (pc' := 242) hz1 dX7_edge_241 rfl ?_
      obtain rfl := g_re1 h
      exact e_iret dX7_edge_242
    · refine e_iload (pc' := 234) (i := 5) rfl dX7_edge_232 rfl ?_
      refine e_goto (tgt := 239) dX7_edge_234 (by decide) ?_
      refine e_iload (pc' := 241) (i := 7) rfl dX7_edge_239 rfl ?_
      obtain ⟨hz2, h⟩ := g_dv_e h
      refine e_idiv (pc' := 242) hz2 dX7_edge_241 rfl ?_
      obtain rfl := g_re1 h
      exact e_iret dX7_edge_242
  · refine e_iload (pc' := 224) (i := 4) rfl dX7_edge_222 rfl ?_
    refine e_goto (tgt := 239) dX7_edge_224 (by decide) ?_
    refine e_iload (pc' := 241) (i := 7) rfl dX7_edge_239 rfl ?_
    obtain ⟨hz3, h⟩ := g_dv_e h
    refine e_idiv (pc' := 242) hz3 dX7_edge_241 rfl ?_
    obtain rfl := g_re1 h
    exact e_iret dX7_edge_242
set_option maxHeartbeats 4000000 in
set_option maxRecDepth 100000 in
theorem w_X7_edge_p204  : ∀ (x3 : Int32) (x4 : Int32) (x5 : Int32) (x6 : Int32) (x7 : Int32) (s0 : Int32) (I : Nat → Int32) (A : Nat → Nat → Int32) (L : Nat → Int64) (t : (Int32 × gS)), f_X7_edge_p204 x3 x4 x5 x6 x7 s0 I A L = some t → Ev 70 RX7 cX7_edge 8 (some .int) 4 204 [none, none, none, some (.int x3), some (.int x4), some (.int x5), some (.int x6), some (.int x7)] [.int s0] I A L (some (.int t.1), t.2) := by
  intro x3 x4 x5 x6 x7 s0 I A L t h
  unfold f_X7_edge_p204 at h
  refine e_if_ge (tgt := 213) (pc' := 207) dX7_edge_204 (by decide) rfl h (fun h => ?_) (fun h => ?_)
  · refine e_iload (pc' := 215) (i := 7) rfl dX7_edge_213 rfl ?_
    exact e_weak (lc' := [none, none, none, some (.int x3), some (.int x4), some (.int x5), some (.int x6), none]) (gle_n (gle_n (gle_n (gle_s (gle_s (gle_s (gle_s (gle_n gle_0)))))))) (w_X7_edge_p215  _ _ _ _ _ _ _ _ _ h)
  · refine e_iload (pc' := 209) (i := 7) rfl dX7_edge_207 rfl ?_
    refine e_ineg (pc' := 210) dX7_edge_209 rfl ?_
    refine e_goto (tgt := 215) dX7_edge_210 (by decide) ?_
    exact e_weak (lc' := [none, none, none, some (.int x3), some (.int x4), some (.int x5), some (.int x6), none]) (gle_n (gle_n (gle_n (gle_s (gle_s (gle_s (gle_s (gle_n gle_0)))))))) (w_X7_edge_p215  _ _ _ _ _ _ _ _ _ h)
set_option maxHeartbeats 4000000 in
set_option maxRecDepth 100000 in
theorem w_X7_edge_p66  : ∀ (x1 : Int32) (x2 : Int32) (I : Nat → Int32) (A : Nat → Nat → Int32) (L : Nat → Int64) (t : (Int32 × gS)), f_X7_edge_p66 x1 x2 I A L = some t → Ev 70 RX7 cX7_edge 8 (some .int) 4 66 [some (.ref 59), some (.int x1), some (.int x2), none, none, none, none, none] [] I A L (some (.int t.1), t.2) := by
  intro x1 x2 I A L t h
  unfold f_X7_edge_p66 at h
  refine e_aload_n (pc' := 67) (i := 0) rfl rfl dX7_edge_66 rfl ?_
  refine e_iload_n (pc' := 68) (i := 1) rfl rfl dX7_edge_67 rfl ?_
  refine e_iload_n (pc' := 69) (i := 2) rfl rfl dX7_edge_68 rfl ?_
  obtain ⟨v2, hF1, h⟩ := g_bd_e h
  refine e_callV_i (pc' := 72) dX7_edge_69 rfl mw_975 mv_X7_isEdge rfl (Nat.le_of_ble_eq_true rfl) (Nat.le_of_ble_eq_true rfl) rfl (Nat.le_of_ble_eq_true rfl) (Nat.le_of_ble_eq_true rfl) rfl (c_X7_isEdge _ _ hF1) rfl ?_
  refine e_if_eq (tgt := 79) (pc' := 75) dX7_edge_72 (by decide) rfl h (fun h => ?_) (fun h => ?_)
  · refine e_iconst (v := 0) (pc' := 80) (by decide) dX7_edge_79 rfl ?_
    obtain rfl := g_re1 h
    exact e_iret dX7_edge_80
  · refine e_iconst (v := 1) (pc' := 76) (by decide) dX7_edge_75 rfl ?_
    refine e_goto (tgt := 80) dX7_edge_76 (by decide) ?_
    obtain rfl := g_re1 h
    exact e_iret dX7_edge_80
set_option maxHeartbeats 4000000 in
set_option maxRecDepth 100000 in
theorem w_X7_edge_p30  : ∀ (I : Nat → Int32) (A : Nat → Nat → Int32) (L : Nat → Int64) (t : (Int32 × gS)), f_X7_edge_p30 I A L = some t → Ev 70 RX7 cX7_edge 8 (some .int) 4 30 [some (.ref 59), none, none, none, none, none, none, none] [] I A L (some (.int t.1), t.2) := by
  intro  I A L t h
  unfold f_X7_edge_p30 at h
  refine e_aload_n (pc' := 31) (i := 0) rfl rfl dX7_edge_30 rfl ?_
  refine e_bipush (v := (-100)) (pc' := 33) (by decide) dX7_edge_31 rfl ?_
  obtain ⟨v5, I2, A3, L4, hF1, h⟩ := g_b2_e h
  refine e_callV_i (pc' := 36) dX7_edge_33 rfl mw_967 mv_X7_bad rfl (Nat.le_of_ble_eq_true rfl) (Nat.le_of_ble_eq_true rfl) rfl (Nat.le_of_ble_eq_true rfl) (Nat.le_of_ble_eq_true rfl) rfl (c_X7_bad _ hF1) rfl ?_
  obtain rfl := g_re1 h
  exact e_iret dX7_edge_36
set_option maxHeartbeats 4000000 in
set_option maxRecDepth 100000 in
theorem c_X7_edge (a0 : Int32) (a1 : Int32) (a2 : Int32) {I : Nat → Int32} {A : Nat → Nat → Int32} {L : Nat → Int64} {t : Int32} {I' : Nat → Int32} {A' : Nat → Nat → Int32} {L' : Nat → Int64} (h : f_X7_edge  a0 a1 a2 I A L = some (t, I', A', L')) : GM 70 yX7_edge cX7_edge 8 (some .int) 4 [.ref 59, .int a0, .int a1, .int a2] I A L (some (.int t), (I', A', L')) := by
  refine gm_of (n := 4) (lc := [some (.ref 59), some (.int a0), some (.int a1), some (.int a2), none, none, none, none]) (by decide +kernel) rfl (fun _ => Nat.le_of_ble_eq_true rfl) ?_
  change Ev 70 RX7 cX7_edge 8 (some .int) 4 0 [some (.ref 59), some (.int a0), some (.int a1), some (.int a2), none, none, none, none] [] I A L _
  unfold f_X7_edge at h
  refine e_aload_n (pc' := 1) (i := 0) rfl rfl dX7_edge_0 rfl ?_
  refine e_iload_n (pc' := 2) (i := 1) rfl rfl dX7_edge_1 rfl ?_
  obtain ⟨v2, hF1, h⟩ := g_bd_e h
  refine e_callV_i (pc' := 5) dX7_edge_2 rfl mw_890 mv_X7_isPlane rfl (Nat.le_of_ble_eq_true rfl) (Nat.le_of_ble_eq_true rfl) rfl (Nat.le_of_ble_eq_true rfl) (Nat.le_of_ble_eq_true rfl) rfl (c_X7_isPlane _ hF1) rfl ?_
  refine e_if_eq (tgt := 30) (pc' := 8) dX7_edge_5 (by decide) rfl h (fun h => ?_) (fun h => ?_)
  · exact e_weak (lc' := [some (.ref 59), none, none, none, none, none, none, none]) (gle_s (gle_n (gle_n (gle_n (gle_n (gle_n (gle_n (gle_n gle_0)))))))) (w_X7_edge_p30  _ _ _ _ h)
  · refine e_aload_n (pc' := 9) (i := 0) rfl rfl dX7_edge_8 rfl ?_
    refine e_iload_n (pc' := 10) (i := 2) rfl rfl dX7_edge_9 rfl ?_
    obtain ⟨v4, hF3, h⟩ := g_bd_e h
    refine e_callV_i (pc' := 13) dX7_edge_10 rfl mw_890 mv_X7_isPlane rfl (Nat.le_of_ble_eq_true rfl) (Nat.le_of_ble_eq_true rfl) rfl (Nat.le_of_ble_eq_true rfl) (Nat.le_of_ble_eq_true rfl) rfl (c_X7_isPlane _ hF3) rfl ?_
    refine e_if_eq (tgt := 30) (pc' := 16) dX7_edge_13 (by decide) rfl h (fun h => ?_) (fun h => ?_)
    · exact e_weak (lc' := [some (.ref 59), none, none, none, none, none, none, none]) (gle_s (gle_n (gle_n (gle_n (gle_n (gle_n (gle_n (gle_n gle_0)))))))) (w_X7_edge_p30  _ _ _ _ h)
    · refine e_iload_n (pc' := 17) (i := 1) rfl rfl dX7_edge_16 rfl ?_
      refine e_iload_n (pc' := 18) (i := 2) rfl rfl dX7_edge_17 rfl ?_
      refine e_icmp_eq (tgt := 30) (pc' := 21) dX7_edge_18 (by decide) rfl h (fun h => ?_) (fun h => ?_)
      · exact e_weak (lc' := [some (.ref 59), none, none, none, none, none, none, none]) (gle_s (gle_n (gle_n (gle_n (gle_n (gle_n (gle_n (gle_n gle_0)))))))) (w_X7_edge_p30  _ _ _ _ h)
      · refine e_iload_n (pc' := 22) (i := 3) rfl rfl dX7_edge_21 rfl ?_
        refine e_iconst (v := 0) (pc' := 23) (by decide) dX7_edge_22 rfl ?_
        refine e_iconst (v := 4) (pc' := 24) (by decide) dX7_edge_23 rfl ?_
        obtain ⟨v6, hF5, h⟩ := g_bd_e h
        refine e_callS_i (pc' := 27) dX7_edge_24 rfl mw_851 ms_X7_in rfl (Nat.le_of_ble_eq_true rfl) (Nat.le_of_ble_eq_true rfl) (c_X7_in _ _ _ hF5) rfl ?_
        refine e_if_ne (tgt := 37) (pc' := 30) dX7_edge_27 (by decide) rfl h (fun h => ?_) (fun h => ?_)
        · refine e_aload_n (pc' := 38) (i := 0) rfl rfl dX7_edge_37 rfl ?_
          obtain ⟨I8, A9, L10, hF7, h⟩ := g_b1_e h
          refine e_callV_v (pc' := 41) dX7_edge_38 rfl mw_924 mv_X7_lays rfl (Nat.le_of_ble_eq_true rfl) (Nat.le_of_ble_eq_true rfl) rfl (Nat.le_of_ble_eq_true rfl) (Nat.le_of_ble_eq_true rfl) rfl (c_X7_lays hF7) rfl ?_
          refine e_iload_n (pc' := 42) (i := 3) rfl rfl dX7_edge_41 rfl ?_
          refine e_iconst (v := 4) (pc' := 43) (by decide) dX7_edge_42 rfl ?_
          refine e_icmp_ne (tgt := 53) (pc' := 46) dX7_edge_43 (by decide) rfl h (fun h => ?_) (fun h => ?_)
          · refine e_iload_n (pc' := 54) (i := 3) rfl rfl dX7_edge_53 rfl ?_
            refine e_if_eq (tgt := 66) (pc' := 57) dX7_edge_54 (by decide) rfl h (fun h => ?_) (fun h => ?_)
            · exact e_weak (lc' := [some (.ref 59), some (.int a0), some (.int a1), none, none, none, none, none]) (gle_s (gle_s (gle_s (gle_n (gle_n (gle_n (gle_n (gle_n gle_0)))))))) (w_X7_edge_p66  _ _ _ _ _ _ h)
            · refine e_aload_n (pc' := 58) (i := 0) rfl rfl dX7_edge_57 rfl ?_
              refine e_iload_n (pc' := 59) (i := 1) rfl rfl dX7_edge_58 rfl ?_
              refine e_iload_n (pc' := 60) (i := 2) rfl rfl dX7_edge_59 rfl ?_
              obtain ⟨v12, hF11, h⟩ := g_bd_e h
              refine e_callV_i (pc' := 63) dX7_edge_60 rfl mw_975 mv_X7_isEdge rfl (Nat.le_of_ble_eq_true rfl) (Nat.le_of_ble_eq_true rfl) rfl (Nat.le_of_ble_eq_true rfl) (Nat.le_of_ble_eq_true rfl) rfl (c_X7_isEdge _ _ hF11) rfl ?_
              refine e_if_ne (tgt := 81) (pc' := 66) dX7_edge_63 (by decide) rfl h (fun h => ?_) (fun h => ?_)
              · refine e_aload_n (pc' := 82) (i := 0) rfl rfl dX7_edge_81 rfl ?_
                refine e_iload_n (pc' := 83) (i := 1) rfl rfl dX7_edge_82 rfl ?_
                refine e_iconst (v := 1) (pc' := 84) (by decide) dX7_edge_83 rfl ?_
                obtain ⟨v14, hF13, h⟩ := g_bd_e h
                refine e_callV_i (pc' := 87) dX7_edge_84 rfl mw_894 mv_X7_get rfl (Nat.le_of_ble_eq_true rfl) (Nat.le_of_ble_eq_true rfl) rfl (Nat.le_of_ble_eq_true rfl) (Nat.le_of_ble_eq_true rfl) rfl (c_X7_get _ _ hF13) rfl ?_
                refine e_aload_n (pc' := 88) (i := 0) rfl rfl dX7_edge_87 rfl ?_
                refine e_iload_n (pc' := 89) (i := 2) rfl rfl dX7_edge_88 rfl ?_
                refine e_iconst (v := 2) (pc' := 90) (by decide) dX7_edge_89 rfl ?_
                obtain ⟨v16, hF15, h⟩ := g_bd_e h
                refine e_callV_i (pc' := 93) dX7_edge_90 rfl mw_894 mv_X7_get rfl (Nat.le_of_ble_eq_true rfl) (Nat.le_of_ble_eq_true rfl) rfl (Nat.le_of_ble_eq_true rfl) (Nat.le_of_ble_eq_true rfl) rfl (c_X7_get _ _ hF15) rfl ?_
                refine e_imul (pc' := 94) dX7_edge_93 rfl ?_
                refine e_aload_n (pc' := 95) (i := 0) rfl rfl dX7_edge_94 rfl ?_
                refine e_iload_n (pc' := 96) (i := 1) rfl rfl dX7_edge_95 rfl ?_
                refine e_iconst (v := 2) (pc' := 97) (by decide) dX7_edge_96 rfl ?_
                obtain ⟨v18, hF17, h⟩ := g_bd_e h
                refine e_callV_i (pc' := 100) dX7_edge_97 rfl mw_894 mv_X7_get rfl (Nat.le_of_ble_eq_true rfl) (Nat.le_of_ble_eq_true rfl) rfl (Nat.le_of_ble_eq_true rfl) (Nat.le_of_ble_eq_true rfl) rfl (c_X7_get _ _ hF17) rfl ?_
                refine e_aload_n (pc' := 101) (i := 0) rfl rfl dX7_edge_100 rfl ?_
                refine e_iload_n (pc' := 102) (i := 2) rfl rfl dX7_edge_101 rfl ?_
                refine e_iconst (v := 1) (pc' := 103) (by decide) dX7_edge_102 rfl ?_
                obtain ⟨v20, hF19, h⟩ := g_bd_e h
                refine e_callV_i (pc' := 106) dX7_edge_103 rfl mw_894 mv_X7_get rfl (Nat.le_of_ble_eq_true rfl) (Nat.le_of_ble_eq_true rfl) rfl (Nat.le_of_ble_eq_true rfl) (Nat.le_of_ble_eq_true rfl) rfl (c_X7_get _ _ hF19) rfl ?_
                refine e_imul (pc' := 107) dX7_edge_106 rfl ?_
                refine e_isub (pc' := 108) dX7_edge_107 rfl ?_
                refine e_lt h (fun v21 h => ?_)
                refine e_istore (pc' := 110) (i := 4) (lc' := [some (.ref 59), some (.int a0), some (.int a1), some (.int a2), some (.int v21), none, none, none]) dX7_edge_108 rfl (Nat.le_of_ble_eq_true rfl) rfl rfl ?_
                refine e_aload_n (pc' := 111) (i := 0) rfl rfl dX7_edge_110 rfl ?_
                refine e_iload_n (pc' := 112) (i := 1) rfl rfl dX7_edge_111 rfl ?_
                refine e_iconst (v := 2) (pc' := 113) (by decide) dX7_edge_112 rfl ?_
                obtain ⟨v23, hF22, h⟩ := g_bd_e h
                refine e_callV_i (pc' := 116) dX7_edge_113 rfl mw_894 mv_X7_get rfl (Nat.le_of_ble_eq_true rfl) (Nat.le_of_ble_eq_true rfl) rfl (Nat.le_of_ble_eq_true rfl) (Nat.le_of_ble_eq_true rfl) rfl (c_X7_get _ _ hF22) rfl ?_
                refine e_aload_n (pc' := 117) (i := 0) rfl rfl dX7_edge_116 rfl ?_
                refine e_iload_n (pc' := 118) (i := 2) rfl rfl dX7_edge_117 rfl ?_
                refine e_iconst (v := 0) (pc' := 119) (by decide) dX7_edge_118 rfl ?_
                obtain ⟨v25, hF24, h⟩ := g_bd_e h
                refine e_callV_i (pc' := 122) dX7_edge_119 rfl mw_894 mv_X7_get rfl (Nat.le_of_ble_eq_true rfl) (Nat.le_of_ble_eq_true rfl) rfl (Nat.le_of_ble_eq_true rfl) (Nat.le_of_ble_eq_true rfl) rfl (c_X7_get _ _ hF24) rfl ?_
                refine e_imul (pc' := 123) dX7_edge_122 rfl ?_
                refine e_aload_n (pc' := 124) (i := 0) rfl rfl dX7_edge_123 rfl ?_
                refine e_iload_n (pc' := 125) (i := 1) rfl rfl dX7_edge_124 rfl ?_
                refine e_iconst (v := 0) (pc' := 126) (by decide) dX7_edge_125 rfl ?_
                obtain ⟨v27, hF26, h⟩ := g_bd_e h
                refine e_callV_i (pc' := 129) dX7_edge_126 rfl mw_894 mv_X7_get rfl (Nat.le_of_ble_eq_true rfl) (Nat.le_of_ble_eq_true rfl) rfl (Nat.le_of_ble_eq_true rfl) (Nat.le_of_ble_eq_true rfl) rfl (c_X7_get _ _ hF26) rfl ?_
                refine e_aload_n (pc' := 130) (i := 0) rfl rfl dX7_edge_129 rfl ?_
                refine e_iload_n (pc' := 131) (i := 2) rfl rfl dX7_edge_130 rfl ?_
                refine e_iconst (v := 2) (pc' := 132) (by decide) dX7_edge_131 rfl ?_
                obtain ⟨v29, hF28, h⟩ := g_bd_e h
                refine e_callV_i (pc' := 135) dX7_edge_132 rfl mw_894 mv_X7_get rfl (Nat.le_of_ble_eq_true rfl) (Nat.le_of_ble_eq_true rfl) rfl (Nat.le_of_ble_eq_true rfl) (Nat.le_of_ble_eq_true rfl) rfl (c_X7_get _ _ hF28) rfl ?_
                refine e_imul (pc' := 136) dX7_edge_135 rfl ?_
                refine e_isub (pc' := 137) dX7_edge_136 rfl ?_
                refine e_lt h (fun v30 h => ?_)
                refine e_istore (pc' := 139) (i := 5) (lc' := [some (.ref 59), some (.int a0), some (.int a1), some (.int a2), some (.int v21), some (.int v30), none, none]) dX7_edge_137 rfl (Nat.le_of_ble_eq_true rfl) rfl rfl ?_
                refine e_aload_n (pc' := 140) (i := 0) rfl rfl dX7_edge_139 rfl ?_
                refine e_iload_n (pc' := 141) (i := 1) rfl rfl dX7_edge_140 rfl ?_
                refine e_iconst (v := 0) (pc' := 142) (by decide) dX7_edge_141 rfl ?_
                obtain ⟨v32, hF31, h⟩ := g_bd_e h
                refine e_callV_i (pc' := 145) dX7_edge_142 rfl mw_894 mv_X7_get rfl (Nat.le_of_ble_eq_true rfl) (Nat.le_of_ble_eq_true rfl) rfl (Nat.le_of_ble_eq_true rfl) (Nat.le_of_ble_eq_true rfl) rfl (c_X7_get _ _ hF31) rfl ?_
                refine e_aload_n (pc' := 146) (i := 0) rfl rfl dX7_edge_145 rfl ?_
                refine e_iload_n (pc' := 147) (i := 2) rfl rfl dX7_edge_146 rfl ?_
                refine e_iconst (v := 1) (pc' := 148) (by decide) dX7_edge_147 rfl ?_
                obtain ⟨v34, hF33, h⟩ := g_bd_e h
                refine e_callV_i (pc' := 151) dX7_edge_148 rfl mw_894 mv_X7_get rfl (Nat.le_of_ble_eq_true rfl) (Nat.le_of_ble_eq_true rfl) rfl (Nat.le_of_ble_eq_true rfl) (Nat.le_of_ble_eq_true rfl) rfl (c_X7_get _ _ hF33) rfl ?_
                refine e_imul (pc' := 152) dX7_edge_151 rfl ?_
                refine e_aload_n (pc' := 153) (i := 0) rfl rfl dX7_edge_152 rfl ?_
                refine e_iload_n (pc' := 154) (i := 1) rfl rfl dX7_edge_153 rfl ?_
                refine e_iconst (v := 1) (pc' := 155) (by decide) dX7_edge_154 rfl ?_
                obtain ⟨v36, hF35, h⟩ := g_bd_e h
                refine e_callV_i (pc' := 158) dX7_edge_155 rfl mw_894 mv_X7_get rfl (Nat.le_of_ble_eq_true rfl) (Nat.le_of_ble_eq_true rfl) rfl (Nat.le_of_ble_eq_true rfl) (Nat.le_of_ble_eq_true rfl) rfl (c_X7_get _ _ hF35) rfl ?_
                refine e_aload_n (pc' := 159) (i := 0) rfl rfl dX7_edge_158 rfl ?_
                refine e_iload_n (pc' := 160) (i := 2) rfl rfl dX7_edge_159 rfl ?_
                refine e_iconst (v := 0) (pc' := 161) (by decide) dX7_edge_160 rfl ?_
                obtain ⟨v38, hF37, h⟩ := g_bd_e h
                refine e_callV_i (pc' := 164) dX7_edge_161 rfl mw_894 mv_X7_get rfl (Nat.le_of_ble_eq_true rfl) (Nat.le_of_ble_eq_true rfl) rfl (Nat.le_of_ble_eq_true rfl) (Nat.le_of_ble_eq_true rfl) rfl (c_X7_get _ _ hF37) rfl ?_
                refine e_imul (pc' := 165) dX7_edge_164 rfl ?_
                refine e_isub (pc' := 166) dX7_edge_165 rfl ?_
                refine e_lt h (fun v39 h => ?_)
                refine e_istore (pc' := 168) (i := 6) (lc' := [some (.ref 59), some (.int a0), some (.int a1), some (.int a2), some (.int v21), some (.int v30), some (.int v39), none]) dX7_edge_166 rfl (Nat.le_of_ble_eq_true rfl) rfl rfl ?_
                refine e_iload (pc' := 170) (i := 4) rfl dX7_edge_168 rfl ?_
                refine e_iload (pc' := 172) (i := 5) rfl dX7_edge_170 rfl ?_
                obtain ⟨v41, hF40, h⟩ := g_bd_e h
                refine e_callS_i (pc' := 175) dX7_edge_172 rfl mw_936 ms_X7_common rfl (Nat.le_of_ble_eq_true rfl) (Nat.le_of_ble_eq_true rfl) (c_X7_common _ _ hF40) rfl ?_
                refine e_iload (pc' := 177) (i := 6) rfl dX7_edge_175 rfl ?_
                obtain ⟨v43, hF42, h⟩ := g_bd_e h
                refine e_callS_i (pc' := 180) dX7_edge_177 rfl mw_936 ms_X7_common rfl (Nat.le_of_ble_eq_true rfl) (Nat.le_of_ble_eq_true rfl) (c_X7_common _ _ hF42) rfl ?_
                refine e_istore (pc' := 182) (i := 7) (lc' := [some (.ref 59), some (.int a0), some (.int a1), some (.int a2), some (.int v21), some (.int v30), some (.int v39), some (.int v43)]) dX7_edge_180 rfl (Nat.le_of_ble_eq_true rfl) rfl rfl ?_
                refine e_iload (pc' := 184) (i := 4) rfl dX7_edge_182 rfl ?_
                refine e_if_eq (tgt := 192) (pc' := 187) dX7_edge_184 (by decide) rfl h (fun h => ?_) (fun h => ?_)
                · refine e_iload (pc' := 194) (i := 5) rfl dX7_edge_192 rfl ?_
                  refine e_if_eq (tgt := 202) (pc' := 197) dX7_edge_194 (by decide) rfl h (fun h => ?_) (fun h => ?_)
                  · refine e_iload (pc' := 204) (i := 6) rfl dX7_edge_202 rfl ?_
                    exact e_weak (lc' := [none, none, none, some (.int a2), some (.int v21), some (.int v30), some (.int v39), some (.int v43)]) (gle_n (gle_n (gle_n (gle_s (gle_s (gle_s (gle_s (gle_s gle_0)))))))) (w_X7_edge_p204  _ _ _ _ _ _ _ _ _ _ h)
                  · refine e_iload (pc' := 199) (i := 5) rfl dX7_edge_197 rfl ?_
                    refine e_goto (tgt := 204) dX7_edge_199 (by decide) ?_
                    exact e_weak (lc' := [none, none, none, some (.int a2), some (.int v21), some (.int v30), some (.int v39), some (.int v43)]) (gle_n (gle_n (gle_n (gle_s (gle_s (gle_s (gle_s (gle_s gle_0)))))))) (w_X7_edge_p204  _ _ _ _ _ _ _ _ _ _ h)
                · refine e_iload (pc' := 189) (i := 4) rfl dX7_edge_187 rfl ?_
                  refine e_goto (tgt := 204) dX7_edge_189 (by decide) ?_
                  exact e_weak (lc' := [none, none, none, some (.int a2), some (.int v21), some (.int v30), some (.int v39), some (.int v43)]) (gle_n (gle_n (gle_n (gle_s (gle_s (gle_s (gle_s (gle_s gle_0)))))))) (w_X7_edge_p204  _ _ _ _ _ _ _ _ _ _ h)
              · exact e_weak (lc' := [some (.ref 59), some (.int a0), some (.int a1), none, none, none, none, none]) (gle_s (gle_s (gle_s (gle_n (gle_n (gle_n (gle_n (gle_n gle_0)))))))) (w_X7_edge_p66  _ _ _ _ _ _ h)
          · refine e_aload_n (pc' := 47) (i := 0) rfl rfl dX7_edge_46 rfl ?_
            refine e_iload_n (pc' := 48) (i := 1) rfl rfl dX7_edge_47 rfl ?_
            refine e_iload_n (pc' := 49) (i := 2) rfl rfl dX7_edge_48 rfl ?_
            obtain ⟨v45, hF44, h⟩ := g_bd_e h
            refine e_callV_i (pc' := 52) dX7_edge_49 rfl mw_979 mv_X7_cornersOnBoth rfl (Nat.le_of_ble_eq_true rfl) (Nat.le_of_ble_eq_true rfl) rfl (Nat.le_of_ble_eq_true rfl) (Nat.le_of_ble_eq_true rfl) rfl (c_X7_cornersOnBoth _ _ hF44) rfl ?_
            obtain ⟨rfl, rfl, rfl, rfl⟩ := g_re4 h
            exact e_iret dX7_edge_52
        · exact e_weak (lc' := [some (.ref 59), none, none, none, none, none, none, none]) (gle_s (gle_n (gle_n (gle_n (gle_n (gle_n (gle_n (gle_n gle_0)))))))) (w_X7_edge_p30  _ _ _ _ h)
set_option maxHeartbeats 4000000 in
set_option maxRecDepth 100000 in
theorem c_X7_farOf (a0 : Int32) (a1 : Int32) (a2 : Int32) (a3 : Int32) {I : Nat → Int32} {A : Nat → Nat → Int32} {L : Nat → Int64} {t : Int32} (h : f_X7_farOf I A L a0 a1 a2 a3 = some t) : GM 70 yX7_farOf cX7_farOf 5 (some .int) 0 [.ref 59, .int a0, .int a1, .int a2, .int a3] I A L (some (.int t), (I, A, L)) := by
  refine gm_of (n := 0) (lc := [some (.ref 59), some (.int a0), some (.int a1), some (.int a2), some (.int a3)]) (by decide +kernel) rfl (fun _ => Nat.le_of_ble_eq_true rfl) ?_
  change Ev 70 RX7 cX7_farOf 5 (some .int) 0 0 [some (.ref 59), some (.int a0), some (.int a1), some (.int a2), some (.int a3)] [] I A L _
  unfold f_X7_farOf at h
  refine e_iload_n (pc' := 1) (i := 2) rfl rfl dX7_farOf_0 rfl ?_
  refine e_aload_n (pc' := 2) (i := 0) rfl rfl dX7_farOf_1 rfl ?_
  refine e_getR (a := 59) (b := 65) (k0 := 10) (pc' := 5) dX7_farOf_2 rfl rfl (Nat.le_of_ble_eq_true rfl) (Nat.le_of_ble_eq_true rfl) rfl mw_804 rfl ?_
  refine e_iconst (v := 5) (pc' := 6) (by decide) dX7_farOf_5 rfl ?_
  refine e_iload_n (pc' := 7) (i := 1) rfl rfl dX7_farOf_6 rfl ?_
  refine e_imul (pc' := 8) dX7_farOf_7 rfl ?_
  refine e_iald (n := 320) (pc' := 9) dX7_farOf_8 rfl rfl (Nat.le_of_ble_eq_true rfl) h (fun h => ?_)
  refine e_imul (pc' := 10) dX7_farOf_9 rfl ?_
  refine e_iload_n (pc' := 11) (i := 3) rfl rfl dX7_farOf_10 rfl ?_
  refine e_aload_n (pc' := 12) (i := 0) rfl rfl dX7_farOf_11 rfl ?_
  refine e_getR (a := 59) (b := 65) (k0 := 10) (pc' := 15) dX7_farOf_12 rfl rfl (Nat.le_of_ble_eq_true rfl) (Nat.le_of_ble_eq_true rfl) rfl mw_804 rfl ?_
  refine e_iconst (v := 5) (pc' := 16) (by decide) dX7_farOf_15 rfl ?_
  refine e_iload_n (pc' := 17) (i := 1) rfl rfl dX7_farOf_16 rfl ?_
  refine e_imul (pc' := 18) dX7_farOf_17 rfl ?_
  refine e_iconst (v := 1) (pc' := 19) (by decide) dX7_farOf_18 rfl ?_
  refine e_iadd (pc' := 20) dX7_farOf_19 rfl ?_
  refine e_iald (n := 320) (pc' := 21) dX7_farOf_20 rfl rfl (Nat.le_of_ble_eq_true rfl) h (fun h => ?_)
  refine e_imul (pc' := 22) dX7_farOf_21 rfl ?_
  refine e_iadd (pc' := 23) dX7_farOf_22 rfl ?_
  refine e_iload (pc' := 25) (i := 4) rfl dX7_farOf_23 rfl ?_
  refine e_aload_n (pc' := 26) (i := 0) rfl rfl dX7_farOf_25 rfl ?_
  refine e_getR (a := 59) (b := 65) (k0 := 10) (pc' := 29) dX7_farOf_26 rfl rfl (Nat.le_of_ble_eq_true rfl) (Nat.le_of_ble_eq_true rfl) rfl mw_804 rfl ?_
  refine e_iconst (v := 5) (pc' := 30) (by decide) dX7_farOf_29 rfl ?_
  refine e_iload_n (pc' := 31) (i := 1) rfl rfl dX7_farOf_30 rfl ?_
  refine e_imul (pc' := 32) dX7_farOf_31 rfl ?_
  refine e_iconst (v := 2) (pc' := 33) (by decide) dX7_farOf_32 rfl ?_
  refine e_iadd (pc' := 34) dX7_farOf_33 rfl ?_
  refine e_iald (n := 320) (pc' := 35) dX7_farOf_34 rfl rfl (Nat.le_of_ble_eq_true rfl) h (fun h => ?_)
  refine e_imul (pc' := 36) dX7_farOf_35 rfl ?_
  refine e_iadd (pc' := 37) dX7_farOf_36 rfl ?_
  obtain rfl := g_re1 h
  exact e_iret dX7_farOf_37
set_option maxHeartbeats 4000000 in
set_option maxRecDepth 100000 in
theorem w_X7_farthest_p6 (I : Nat → Int32) (A : Nat → Nat → Int32) (L : Nat → Int64) : ∀ (n : Nat) (x1 : Int32) (x2 : Int32) (x3 : Int32) (x4 : Int32) (x5 : Int32) (t : Int32), f_X7_farthest_p6 I A L n x1 x2 x3 x4 x5 = some t → Ev 70 RX7 cX7_farthest 8 (some .int) 0 6 [some (.ref 59), some (.int x1), some (.int x2), some (.int x3), some (.int x4), some (.int x5), none, none] [] I A L (some (.int t), (I, A, L)) := by
  intro n
  induction n with
  | zero =>
    intro x1 x2 x3 x4 x5 t h
    cases h
  | succ n ih =>
    intro x1 x2 x3 x4 x5 t h
    rw [f_X7_farthest_p6] at h
    refine e_iload (pc' := 8) (i := 5) rfl dX7_farthest_6 rfl ?_
    refine e_aload_n (pc' := 9) (i := 0) rfl rfl dX7_farthest_8 rfl ?_
    refine e_getI (a := 59) (n := 955) (k0 := 11) (pc' := 12) dX7_farthest_9 rfl rfl (Nat.le_of_ble_eq_true rfl) (Nat.le_of_ble_eq_true rfl) rfl mw_805 rfl ?_
    refine e_icmp_ge (tgt := 143) (pc' := 15) dX7_farthest_12 (by decide) rfl h (fun h => ?_) (fun h => ?_)
    · refine e_iload (pc' := 145) (i := 4) rfl dX7_farthest_143 rfl ?_
      obtain rfl := g_re1 h
      exact e_iret dX7_farthest_145
    · refine e_iload_n (pc' := 16) (i := 1) rfl rfl dX7_farthest_15 rfl ?_
      refine e_aload_n (pc' := 17) (i := 0) rfl rfl dX7_farthest_16 rfl ?_
      refine e_getR (a := 59) (b := 65) (k0 := 10) (pc' := 20) dX7_farthest_17 rfl rfl (Nat.le_of_ble_eq_true rfl) (Nat.le_of_ble_eq_true rfl) rfl mw_804 rfl ?_
      refine e_iconst (v := 5) (pc' := 21) (by decide) dX7_farthest_20 rfl ?_
      refine e_iload (pc' := 23) (i := 5) rfl dX7_farthest_21 rfl ?_
      refine e_imul (pc' := 24) dX7_farthest_23 rfl ?_
      refine e_iald (n := 320) (pc' := 25) dX7_farthest_24 rfl rfl (Nat.le_of_ble_eq_true rfl) h (fun h => ?_)
      refine e_imul (pc' := 26) dX7_farthest_25 rfl ?_
      refine e_iload_n (pc' := 27) (i := 2) rfl rfl dX7_farthest_26 rfl ?_
      refine e_aload_n (pc' := 28) (i := 0) rfl rfl dX7_farthest_27 rfl ?_
      refine e_getR (a := 59) (b := 65) (k0 := 10) (pc' := 31) dX7_farthest_28 rfl rfl (Nat.le_of_ble_eq_true rfl) (Nat.le_of_ble_eq_true rfl) rfl mw_804 rfl ?_
      refine e_iconst (v := 5) (pc' := 32) (by decide) dX7_farthest_31 rfl ?_
      refine e_iload (pc' := 34) (i := 5) rfl dX7_farthest_32 rfl ?_
      refine e_imul (pc' := 35) dX7_farthest_34 rfl ?_
      refine e_iconst (v := 1) (pc' := 36) (by decide) dX7_farthest_35 rfl ?_
      refine e_iadd (pc' := 37) dX7_farthest_36 rfl ?_
      refine e_iald (n := 320) (pc' := 38) dX7_farthest_37 rfl rfl (Nat.le_of_ble_eq_true rfl) h (fun h => ?_)
      refine e_imul (pc' := 39) dX7_farthest_38 rfl ?_
      refine e_iadd (pc' := 40) dX7_farthest_39 rfl ?_
      refine e_iload_n (pc' := 41) (i := 3) rfl rfl dX7_farthest_40 rfl ?_
      refine e_aload_n (pc' := 42) (i := 0) rfl rfl dX7_farthest_41 rfl ?_
      refine e_getR (a := 59) (b := 65) (k0 := 10) (pc' := 45) dX7_farthest_42 rfl rfl (Nat.le_of_ble_eq_true rfl) (Nat.le_of_ble_eq_true rfl) rfl mw_804 rfl ?_
      refine e_iconst (v := 5) (pc' := 46) (by decide) dX7_farthest_45 rfl ?_
      refine e_iload (pc' := 48) (i := 5) rfl dX7_farthest_46 rfl ?_
      refine e_imul (pc' := 49) dX7_farthest_48 rfl ?_
      refine e_iconst (v := 2) (pc' := 50) (by decide) dX7_farthest_49 rfl ?_
      refine e_iadd (pc' := 51) dX7_farthest_50 rfl ?_
      refine e_iald (n := 320) (pc' := 52) dX7_farthest_51 rfl rfl (Nat.le_of_ble_eq_true rfl) h (fun h => ?_)
      refine e_imul (pc' := 53) dX7_farthest_52 rfl ?_
      refine e_iadd (pc' := 54) dX7_farthest_53 rfl ?_
      refine e_lt h (fun v1 h => ?_)
      refine e_istore (pc' := 56) (i := 6) (lc' := [some (.ref 59), some (.int x1), some (.int x2), some (.int x3), some (.int x4), some (.int x5), some (.int v1), none]) dX7_farthest_54 rfl (Nat.le_of_ble_eq_true rfl) rfl rfl ?_
      refine e_iload_n (pc' := 57) (i := 1) rfl rfl dX7_farthest_56 rfl ?_
      refine e_aload_n (pc' := 58) (i := 0) rfl rfl dX7_farthest_57 rfl ?_
      refine e_getR (a := 59) (b := 65) (k0 := 10) (pc' := 61) dX7_farthest_58 rfl rfl (Nat.le_of_ble_eq_true rfl) (Nat.le_of_ble_eq_true rfl) rfl mw_804 rfl ?_
      refine e_iconst (v := 5) (pc' := 62) (by decide) dX7_farthest_61 rfl ?_
      refine e_iload (pc' := 64) (i := 4) rfl dX7_farthest_62 rfl ?_
      refine e_imul (pc' := 65) dX7_farthest_64 rfl ?_
      refine e_iald (n := 320) (pc' := 66) dX7_farthest_65 rfl rfl (Nat.le_of_ble_eq_true rfl) h (fun h => ?_)
      refine e_imul (pc' := 67) dX7_farthest_66 rfl ?_
      refine e_iload_n (pc' := 68) (i := 2) rfl rfl dX7_farthest_67 rfl ?_
      refine e_aload_n (pc' := 69) (i := 0) rfl rfl dX7_farthest_68 rfl ?_
      refine e_getR (a := 59) (b := 65) (k0 := 10) (pc' := 72) dX7_farthest_69 rfl rfl (Nat.le_of_ble_eq_true rfl) (Nat.le_of_ble_eq_true rfl) rfl mw_804 rfl ?_
      refine e_iconst (v := 5) (pc' := 73) (by decide) dX7_farthest_72 rfl ?_
      refine e_iload (pc' := 75) (i := 4) rfl dX7_farthest_73 rfl ?_
      refine e_imul (pc' := 76) dX7_farthest_75 rfl ?_
      refine e_iconst (v := 1) (pc' := 77) (by decide) dX7_farthest_76 rfl ?_
      refine e_iadd (pc' := 78) dX7_farthest_77 rfl ?_
      refine e_iald (n := 320) (pc' := 79) dX7_farthest_78 rfl rfl (Nat.le_of_ble_eq_true rfl) h (fun h => ?_)
      refine e_imul (pc' := 80) dX7_farthest_79 rfl ?_
      refine e_iadd (pc' := 81) dX7_farthest_80 rfl ?_
      refine e_iload_n (pc' := 82) (i := 3) rfl rfl dX7_farthest_81 rfl ?_
      refine e_aload_n (pc' := 83) (i := 0) rfl rfl dX7_farthest_82 rfl ?_
      refine e_getR (a := 59) (b := 65) (k0 := 10) (pc' := 86) dX7_farthest_83 rfl rfl (Nat.le_of_ble_eq_true rfl) (Nat.le_of_ble_eq_true rfl) rfl mw_804 rfl ?_
      refine e_iconst (v := 5) (pc' := 87) (by decide) dX7_farthest_86 rfl ?_
      refine e_iload (pc' := 89) (i := 4) rfl dX7_farthest_87 rfl ?_
      refine e_imul (pc' := 90) dX7_farthest_89 rfl ?_
      refine e_iconst (v := 2) (pc' := 91) (by decide) dX7_farthest_90 rfl ?_
      refine e_iadd (pc' := 92) dX7_farthest_91 rfl ?_
      refine e_iald (n := 320) (pc' := 93) dX7_farthest_92 rfl rfl (Nat.le_of_ble_eq_true rfl) h (fun h => ?_)
      refine e_imul (pc' := 94) dX7_farthest_93 rfl ?_
      refine e_iadd (pc' := 95) dX7_farthest_94 rfl ?_
      refine e_lt h (fun v2 h => ?_)
      refine e_istore (pc' := 97) (i := 7) (lc' := [some (.ref 59), some (.int x1), some (.int x2), some (.int x3), some (.int x4), some (.int x5), some (.int v1), some (.int v2)]) dX7_farthest_95 rfl (Nat.le_of_ble_eq_true rfl) rfl rfl ?_
      refine e_iload (pc' := 99) (i := 6) rfl dX7_farthest_97 rfl ?_
      refine e_aload_n (pc' := 100) (i := 0) rfl rfl dX7_farthest_99 rfl ?_
      refine e_getR (a := 59) (b := 65) (k0 := 10) (pc' := 103) dX7_farthest_100 rfl rfl (Nat.le_of_ble_eq_true rfl) (Nat.le_of_ble_eq_true rfl) rfl mw_804 rfl ?_
      refine e_iconst (v := 5) (pc' := 104) (by decide) dX7_farthest_103 rfl ?_
      refine e_iload (pc' := 106) (i := 4) rfl dX7_farthest_104 rfl ?_
      refine e_imul (pc' := 107) dX7_farthest_106 rfl ?_
      refine e_iconst (v := 3) (pc' := 108) (by decide) dX7_farthest_107 rfl ?_
      refine e_iadd (pc' := 109) dX7_farthest_108 rfl ?_
      refine e_iald (n := 320) (pc' := 110) dX7_farthest_109 rfl rfl (Nat.le_of_ble_eq_true rfl) h (fun h => ?_)
      refine e_imul (pc' := 111) dX7_farthest_110 rfl ?_
      refine e_iload (pc' := 113) (i := 7) rfl dX7_farthest_111 rfl ?_
      refine e_aload_n (pc' := 114) (i := 0) rfl rfl dX7_farthest_113 rfl ?_
      refine e_getR (a := 59) (b := 65) (k0 := 10) (pc' := 117) dX7_farthest_114 rfl rfl (Nat.le_of_ble_eq_true rfl) (Nat.le_of_ble_eq_true rfl) rfl mw_804 rfl ?_
      refine e_iconst (v := 5) (pc' := 118) (by decide) dX7_farthest_117 rfl ?_
      refine e_iload (pc' := 120) (i := 5) rfl dX7_farthest_118 rfl ?_
      refine e_imul (pc' := 121) dX7_farthest_120 rfl ?_
      refine e_iconst (v := 3) (pc' := 122) (by decide) dX7_farthest_121 rfl ?_
      refine e_iadd (pc' := 123) dX7_farthest_122 rfl ?_
      refine e_iald (n := 320) (pc' := 124) dX7_farthest_123 rfl rfl (Nat.le_of_ble_eq_true rfl) h (fun h => ?_)
      refine e_imul (pc' := 125) dX7_farthest_124 rfl ?_
      refine e_icmp_le (tgt := 133) (pc' := 128) dX7_farthest_125 (by decide) rfl h (fun h => ?_) (fun h => ?_)
      · refine e_iload (pc' := 135) (i := 4) rfl dX7_farthest_133 rfl ?_
        refine e_istore (pc' := 137) (i := 4) (lc' := [some (.ref 59), some (.int x1), some (.int x2), some (.int x3), some (.int x4), some (.int x5), some (.int v1), some (.int v2)]) dX7_farthest_135 rfl (Nat.le_of_ble_eq_true rfl) rfl rfl ?_
        refine e_iinc (pc' := 140) (v := (x5 + 1)) (lc' := [some (.ref 59), some (.int x1), some (.int x2), some (.int x3), some (.int x4), some (.int (x5 + 1)), some (.int v1), some (.int v2)]) dX7_farthest_137 rfl rfl rfl (Nat.le_of_ble_eq_true rfl) rfl rfl ?_
        refine e_goto (tgt := 6) dX7_farthest_140 (by decide) ?_
        exact e_weak (lc' := [some (.ref 59), some (.int x1), some (.int x2), some (.int x3), some (.int x4), some (.int (x5 + 1)), none, none]) (gle_s (gle_s (gle_s (gle_s (gle_s (gle_s (gle_n (gle_n gle_0)))))))) (ih _ _ _ _ _ _ h)
      · refine e_iload (pc' := 130) (i := 5) rfl dX7_farthest_128 rfl ?_
        refine e_goto (tgt := 135) dX7_farthest_130 (by decide) ?_
        refine e_istore (pc' := 137) (i := 4) (lc' := [some (.ref 59), some (.int x1), some (.int x2), some (.int x3), some (.int x5), some (.int x5), some (.int v1), some (.int v2)]) dX7_farthest_135 rfl (Nat.le_of_ble_eq_true rfl) rfl rfl ?_
        refine e_iinc (pc' := 140) (v := (x5 + 1)) (lc' := [some (.ref 59), some (.int x1), some (.int x2), some (.int x3), some (.int x5), some (.int (x5 + 1)), some (.int v1), some (.int v2)]) dX7_farthest_137 rfl rfl rfl (Nat.le_of_ble_eq_true rfl) rfl rfl ?_
        refine e_goto (tgt := 6) dX7_farthest_140 (by decide) ?_
        exact e_weak (lc' := [some (.ref 59), some (.int x1), some (.int x2), some (.int x3), some (.int x5), some (.int (x5 + 1)), none, none]) (gle_s (gle_s (gle_s (gle_s (gle_s (gle_s (gle_n (gle_n gle_0)))))))) (ih _ _ _ _ _ _ h)
set_option maxHeartbeats 4000000 in
set_option maxRecDepth 100000 in
theorem c_X7_farthest (a0 : Int32) (a1 : Int32) (a2 : Int32) {I : Nat → Int32} {A : Nat → Nat → Int32} {L : Nat → Int64} {t : Int32} (h : f_X7_farthest I A L a0 a1 a2 = some t) : GM 70 yX7_farthest cX7_farthest 8 (some .int) 0 [.ref 59, .int a0, .int a1, .int a2] I A L (some (.int t), (I, A, L)) := by
  refine gm_of (n := 4) (lc := [some (.ref 59), some (.int a0), some (.int a1), some (.int a2), none, none, none, none]) (by decide +kernel) rfl (fun _ => Nat.le_of_ble_eq_true rfl) ?_
  change Ev 70 RX7 cX7_farthest 8 (some .int) 0 0 [some (.ref 59), some (.int a0), some (.int a1), some (.int a2), none, none, none, none] [] I A L _
  unfold f_X7_farthest at h
  refine e_iconst (v := 0) (pc' := 1) (by decide) dX7_farthest_0 rfl ?_
  refine e_istore (pc' := 3) (i := 4) (lc' := [some (.ref 59), some (.int a0), some (.int a1), some (.int a2), some (.int 0), none, none, none]) dX7_farthest_1 rfl (Nat.le_of_ble_eq_true rfl) rfl rfl ?_
  refine e_iconst (v := 1) (pc' := 4) (by decide) dX7_farthest_3 rfl ?_
  refine e_istore (pc' := 6) (i := 5) (lc' := [some (.ref 59), some (.int a0), some (.int a1), some (.int a2), some (.int 0), some (.int 1), none, none]) dX7_farthest_4 rfl (Nat.le_of_ble_eq_true rfl) rfl rfl ?_
  exact e_weak (lc' := [some (.ref 59), some (.int a0), some (.int a1), some (.int a2), some (.int 0), some (.int 1), none, none]) (gle_s (gle_s (gle_s (gle_s (gle_s (gle_s (gle_n (gle_n gle_0)))))))) (w_X7_farthest_p6 I A L  _ _ _ _ _ _ _ h)
set_option maxHeartbeats 4000000 in
set_option maxRecDepth 100000 in
theorem w_X7_reach_p35  : ∀ (n : Nat) (x1 : Int32) (x2 : Int32) (x3 : Int32) (x4 : Int32) (x5 : Int32) (x6 : Int32) (I : Nat → Int32) (A : Nat → Nat → Int32) (L : Nat → Int64) (t : (Int32 × gS)), f_X7_reach_p35 n x1 x2 x3 x4 x5 x6 I A L = some t → Ev 70 RX7 cX7_reach 7 (some .int) 4 35 [some (.ref 59), some (.int x1), some (.int x2), some (.int x3), some (.int x4), some (.int x5), some (.int x6)] [] I A L (some (.int t.1), t.2) := by
  intro n
  induction n with
  | zero =>
    intro x1 x2 x3 x4 x5 x6 I A L t h
    cases h
  | succ n ih =>
    intro x1 x2 x3 x4 x5 x6 I A L t h
    rw [f_X7_reach_p35] at h
    refine e_iload (pc' := 37) (i := 6) rfl dX7_reach_35 rfl ?_
    refine e_aload_n (pc' := 38) (i := 0) rfl rfl dX7_reach_37 rfl ?_
    refine e_getI (a := 59) (n := 955) (k0 := 11) (pc' := 41) dX7_reach_38 rfl rfl (Nat.le_of_ble_eq_true rfl) (Nat.le_of_ble_eq_true rfl) rfl mw_805 rfl ?_
    refine e_icmp_ge (tgt := 105) (pc' := 44) dX7_reach_41 (by decide) rfl h (fun h => ?_) (fun h => ?_)
    · refine e_aload_n (pc' := 106) (i := 0) rfl rfl dX7_reach_105 rfl ?_
      refine e_aload_n (pc' := 107) (i := 0) rfl rfl dX7_reach_106 rfl ?_
      refine e_iload (pc' := 109) (i := 4) rfl dX7_reach_107 rfl ?_
      refine e_iload_n (pc' := 110) (i := 1) rfl rfl dX7_reach_109 rfl ?_
      refine e_iload_n (pc' := 111) (i := 2) rfl rfl dX7_reach_110 rfl ?_
      refine e_iload_n (pc' := 112) (i := 3) rfl rfl dX7_reach_111 rfl ?_
      obtain ⟨v2, hF1, h⟩ := g_bd_e h
      refine e_callV_i (pc' := 115) dX7_reach_112 rfl mw_1036 mv_X7_farOf rfl (Nat.le_of_ble_eq_true rfl) (Nat.le_of_ble_eq_true rfl) rfl (Nat.le_of_ble_eq_true rfl) (Nat.le_of_ble_eq_true rfl) rfl (c_X7_farOf _ _ _ _ hF1) rfl ?_
      refine e_aload_n (pc' := 116) (i := 0) rfl rfl dX7_reach_115 rfl ?_
      refine e_getR (a := 59) (b := 65) (k0 := 10) (pc' := 119) dX7_reach_116 rfl rfl (Nat.le_of_ble_eq_true rfl) (Nat.le_of_ble_eq_true rfl) rfl mw_804 rfl ?_
      refine e_iconst (v := 5) (pc' := 120) (by decide) dX7_reach_119 rfl ?_
      refine e_iload (pc' := 122) (i := 4) rfl dX7_reach_120 rfl ?_
      refine e_imul (pc' := 123) dX7_reach_122 rfl ?_
      refine e_iconst (v := 3) (pc' := 124) (by decide) dX7_reach_123 rfl ?_
      refine e_iadd (pc' := 125) dX7_reach_124 rfl ?_
      refine e_iald (n := 320) (pc' := 126) dX7_reach_125 rfl rfl (Nat.le_of_ble_eq_true rfl) h (fun h => ?_)
      obtain ⟨I4, A5, L6, hF3, h⟩ := g_b1_e h
      refine e_callV_v (pc' := 129) dX7_reach_126 rfl mw_1011 mv_X7_fraction rfl (Nat.le_of_ble_eq_true rfl) (Nat.le_of_ble_eq_true rfl) rfl (Nat.le_of_ble_eq_true rfl) (Nat.le_of_ble_eq_true rfl) rfl (c_X7_fraction _ _ hF3) rfl ?_
      refine e_iload (pc' := 131) (i := 5) rfl dX7_reach_129 rfl ?_
      obtain rfl := g_re1 h
      exact e_iret dX7_reach_131
    · refine e_iload (pc' := 46) (i := 5) rfl dX7_reach_44 rfl ?_
      refine e_aload_n (pc' := 47) (i := 0) rfl rfl dX7_reach_46 rfl ?_
      refine e_iload (pc' := 49) (i := 6) rfl dX7_reach_47 rfl ?_
      refine e_iload_n (pc' := 50) (i := 1) rfl rfl dX7_reach_49 rfl ?_
      refine e_iload_n (pc' := 51) (i := 2) rfl rfl dX7_reach_50 rfl ?_
      refine e_iload_n (pc' := 52) (i := 3) rfl rfl dX7_reach_51 rfl ?_
      obtain ⟨v8, hF7, h⟩ := g_bd_e h
      refine e_callV_i (pc' := 55) dX7_reach_52 rfl mw_1036 mv_X7_farOf rfl (Nat.le_of_ble_eq_true rfl) (Nat.le_of_ble_eq_true rfl) rfl (Nat.le_of_ble_eq_true rfl) (Nat.le_of_ble_eq_true rfl) rfl (c_X7_farOf _ _ _ _ hF7) rfl ?_
      refine e_aload_n (pc' := 56) (i := 0) rfl rfl dX7_reach_55 rfl ?_
      refine e_getR (a := 59) (b := 65) (k0 := 10) (pc' := 59) dX7_reach_56 rfl rfl (Nat.le_of_ble_eq_true rfl) (Nat.le_of_ble_eq_true rfl) rfl mw_804 rfl ?_
      refine e_iconst (v := 5) (pc' := 60) (by decide) dX7_reach_59 rfl ?_
      refine e_iload (pc' := 62) (i := 4) rfl dX7_reach_60 rfl ?_
      refine e_imul (pc' := 63) dX7_reach_62 rfl ?_
      refine e_iconst (v := 3) (pc' := 64) (by decide) dX7_reach_63 rfl ?_
      refine e_iadd (pc' := 65) dX7_reach_64 rfl ?_
      refine e_iald (n := 320) (pc' := 66) dX7_reach_65 rfl rfl (Nat.le_of_ble_eq_true rfl) h (fun h => ?_)
      refine e_imul (pc' := 67) dX7_reach_66 rfl ?_
      refine e_aload_n (pc' := 68) (i := 0) rfl rfl dX7_reach_67 rfl ?_
      refine e_iload (pc' := 70) (i := 4) rfl dX7_reach_68 rfl ?_
      refine e_iload_n (pc' := 71) (i := 1) rfl rfl dX7_reach_70 rfl ?_
      refine e_iload_n (pc' := 72) (i := 2) rfl rfl dX7_reach_71 rfl ?_
      refine e_iload_n (pc' := 73) (i := 3) rfl rfl dX7_reach_72 rfl ?_
      obtain ⟨v10, hF9, h⟩ := g_bd_e h
      refine e_callV_i (pc' := 76) dX7_reach_73 rfl mw_1036 mv_X7_farOf rfl (Nat.le_of_ble_eq_true rfl) (Nat.le_of_ble_eq_true rfl) rfl (Nat.le_of_ble_eq_true rfl) (Nat.le_of_ble_eq_true rfl) rfl (c_X7_farOf _ _ _ _ hF9) rfl ?_
      refine e_aload_n (pc' := 77) (i := 0) rfl rfl dX7_reach_76 rfl ?_
      refine e_getR (a := 59) (b := 65) (k0 := 10) (pc' := 80) dX7_reach_77 rfl rfl (Nat.le_of_ble_eq_true rfl) (Nat.le_of_ble_eq_true rfl) rfl mw_804 rfl ?_
      refine e_iconst (v := 5) (pc' := 81) (by decide) dX7_reach_80 rfl ?_
      refine e_iload (pc' := 83) (i := 6) rfl dX7_reach_81 rfl ?_
      refine e_imul (pc' := 84) dX7_reach_83 rfl ?_
      refine e_iconst (v := 3) (pc' := 85) (by decide) dX7_reach_84 rfl ?_
      refine e_iadd (pc' := 86) dX7_reach_85 rfl ?_
      refine e_iald (n := 320) (pc' := 87) dX7_reach_86 rfl rfl (Nat.le_of_ble_eq_true rfl) h (fun h => ?_)
      refine e_imul (pc' := 88) dX7_reach_87 rfl ?_
      refine e_icmp_ne (tgt := 95) (pc' := 91) dX7_reach_88 (by decide) rfl h (fun h => ?_) (fun h => ?_)
      · refine e_iconst (v := 0) (pc' := 96) (by decide) dX7_reach_95 rfl ?_
        refine e_iadd (pc' := 97) dX7_reach_96 rfl ?_
        refine e_istore (pc' := 99) (i := 5) (lc' := [some (.ref 59), some (.int x1), some (.int x2), some (.int x3), some (.int x4), some (.int (x5 + 0)), some (.int x6)]) dX7_reach_97 rfl (Nat.le_of_ble_eq_true rfl) rfl rfl ?_
        refine e_iinc (pc' := 102) (v := (x6 + 1)) (lc' := [some (.ref 59), some (.int x1), some (.int x2), some (.int x3), some (.int x4), some (.int (x5 + 0)), some (.int (x6 + 1))]) dX7_reach_99 rfl rfl rfl (Nat.le_of_ble_eq_true rfl) rfl rfl ?_
        refine e_goto (tgt := 35) dX7_reach_102 (by decide) ?_
        exact e_weak (lc' := [some (.ref 59), some (.int x1), some (.int x2), some (.int x3), some (.int x4), some (.int (x5 + 0)), some (.int (x6 + 1))]) (gle_s (gle_s (gle_s (gle_s (gle_s (gle_s (gle_s gle_0))))))) (ih _ _ _ _ _ _ _ _ _ _ h)
      · refine e_iconst (v := 1) (pc' := 92) (by decide) dX7_reach_91 rfl ?_
        refine e_goto (tgt := 96) dX7_reach_92 (by decide) ?_
        refine e_iadd (pc' := 97) dX7_reach_96 rfl ?_
        refine e_istore (pc' := 99) (i := 5) (lc' := [some (.ref 59), some (.int x1), some (.int x2), some (.int x3), some (.int x4), some (.int (x5 + 1)), some (.int x6)]) dX7_reach_97 rfl (Nat.le_of_ble_eq_true rfl) rfl rfl ?_
        refine e_iinc (pc' := 102) (v := (x6 + 1)) (lc' := [some (.ref 59), some (.int x1), some (.int x2), some (.int x3), some (.int x4), some (.int (x5 + 1)), some (.int (x6 + 1))]) dX7_reach_99 rfl rfl rfl (Nat.le_of_ble_eq_true rfl) rfl rfl ?_
        refine e_goto (tgt := 35) dX7_reach_102 (by decide) ?_
        exact e_weak (lc' := [some (.ref 59), some (.int x1), some (.int x2), some (.int x3), some (.int x4), some (.int (x5 + 1)), some (.int (x6 + 1))]) (gle_s (gle_s (gle_s (gle_s (gle_s (gle_s (gle_s gle_0))))))) (ih _ _ _ _ _ _ _ _ _ _ h)
set_option maxHeartbeats 4000000 in
set_option maxRecDepth 100000 in
theorem c_X7_reach (a0 : Int32) (a1 : Int32) (a2 : Int32) {I : Nat → Int32} {A : Nat → Nat → Int32} {L : Nat → Int64} {t : Int32} {I' : Nat → Int32} {A' : Nat → Nat → Int32} {L' : Nat → Int64} (h : f_X7_reach  a0 a1 a2 I A L = some (t, I', A', L')) : GM 70 yX7_reach cX7_reach 7 (some .int) 4 [.ref 59, .int a0, .int a1, .int a2] I A L (some (.int t), (I', A', L')) := by
  refine gm_of (n := 3) (lc := [some (.ref 59), some (.int a0), some (.int a1), some (.int a2), none, none, none]) (by decide +kernel) rfl (fun _ => Nat.le_of_ble_eq_true rfl) ?_
  change Ev 70 RX7 cX7_reach 7 (some .int) 4 0 [some (.ref 59), some (.int a0), some (.int a1), some (.int a2), none, none, none] [] I A L _
  unfold f_X7_reach at h
  refine e_iload_n (pc' := 1) (i := 1) rfl rfl dX7_reach_0 rfl ?_
  refine e_iload_n (pc' := 2) (i := 2) rfl rfl dX7_reach_1 rfl ?_
  refine e_iload_n (pc' := 3) (i := 3) rfl rfl dX7_reach_2 rfl ?_
  obtain ⟨v2, hF1, h⟩ := g_bd_e h
  refine e_callS_i (pc' := 6) dX7_reach_3 rfl mw_848 ms_X7_isSign rfl (Nat.le_of_ble_eq_true rfl) (Nat.le_of_ble_eq_true rfl) (c_X7_isSign _ _ _ hF1) rfl ?_
  refine e_if_ne (tgt := 16) (pc' := 9) dX7_reach_6 (by decide) rfl h (fun h => ?_) (fun h => ?_)
  · refine e_aload_n (pc' := 17) (i := 0) rfl rfl dX7_reach_16 rfl ?_
    obtain ⟨I4, A5, L6, hF3, h⟩ := g_b1_e h
    refine e_callV_v (pc' := 20) dX7_reach_17 rfl mw_924 mv_X7_lays rfl (Nat.le_of_ble_eq_true rfl) (Nat.le_of_ble_eq_true rfl) rfl (Nat.le_of_ble_eq_true rfl) (Nat.le_of_ble_eq_true rfl) rfl (c_X7_lays hF3) rfl ?_
    refine e_aload_n (pc' := 21) (i := 0) rfl rfl dX7_reach_20 rfl ?_
    refine e_iload_n (pc' := 22) (i := 1) rfl rfl dX7_reach_21 rfl ?_
    refine e_iload_n (pc' := 23) (i := 2) rfl rfl dX7_reach_22 rfl ?_
    refine e_iload_n (pc' := 24) (i := 3) rfl rfl dX7_reach_23 rfl ?_
    obtain ⟨v8, hF7, h⟩ := g_bd_e h
    refine e_callV_i (pc' := 27) dX7_reach_24 rfl mw_1032 mv_X7_farthest rfl (Nat.le_of_ble_eq_true rfl) (Nat.le_of_ble_eq_true rfl) rfl (Nat.le_of_ble_eq_true rfl) (Nat.le_of_ble_eq_true rfl) rfl (c_X7_farthest _ _ _ hF7) rfl ?_
    refine e_istore (pc' := 29) (i := 4) (lc' := [some (.ref 59), some (.int a0), some (.int a1), some (.int a2), some (.int v8), none, none]) dX7_reach_27 rfl (Nat.le_of_ble_eq_true rfl) rfl rfl ?_
    refine e_iconst (v := 0) (pc' := 30) (by decide) dX7_reach_29 rfl ?_
    refine e_istore (pc' := 32) (i := 5) (lc' := [some (.ref 59), some (.int a0), some (.int a1), some (.int a2), some (.int v8), some (.int 0), none]) dX7_reach_30 rfl (Nat.le_of_ble_eq_true rfl) rfl rfl ?_
    refine e_iconst (v := 0) (pc' := 33) (by decide) dX7_reach_32 rfl ?_
    refine e_istore (pc' := 35) (i := 6) (lc' := [some (.ref 59), some (.int a0), some (.int a1), some (.int a2), some (.int v8), some (.int 0), some (.int 0)]) dX7_reach_33 rfl (Nat.le_of_ble_eq_true rfl) rfl rfl ?_
    exact e_weak (lc' := [some (.ref 59), some (.int a0), some (.int a1), some (.int a2), some (.int v8), some (.int 0), some (.int 0)]) (gle_s (gle_s (gle_s (gle_s (gle_s (gle_s (gle_s gle_0))))))) (w_X7_reach_p35  _ _ _ _ _ _ _ _ _ _ _ h)
  · refine e_aload_n (pc' := 10) (i := 0) rfl rfl dX7_reach_9 rfl ?_
    refine e_bipush (v := (-2)) (pc' := 12) (by decide) dX7_reach_10 rfl ?_
    obtain ⟨v13, I10, A11, L12, hF9, h⟩ := g_b2_e h
    refine e_callV_i (pc' := 15) dX7_reach_12 rfl mw_854 mv_X7_refuses rfl (Nat.le_of_ble_eq_true rfl) (Nat.le_of_ble_eq_true rfl) rfl (Nat.le_of_ble_eq_true rfl) (Nat.le_of_ble_eq_true rfl) rfl (c_X7_refuses _ hF9) rfl ?_
    obtain ⟨rfl, rfl, rfl, rfl⟩ := g_re4 h
    exact e_iret dX7_reach_15
