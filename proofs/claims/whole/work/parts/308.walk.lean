set_option maxHeartbeats 4000000 in
set_option maxRecDepth 100000 in
theorem c_X7_in (a0 : Int32) (a1 : Int32) (a2 : Int32) {I : Nat → Int32} {A : Nat → Nat → Int32} {L : Nat → Int64} {t : Int32} (h : f_X7_in I A L a0 a1 a2 = some t) : GM 70 yX7_in cX7_in 3 (some .boolean) 0 [.int a0, .int a1, .int a2] I A L (some (.int t), (I, A, L)) := by
  refine gm_of (n := 0) (lc := [some (.int a0), some (.int a1), some (.int a2)]) (by decide +kernel) rfl (fun _ => Nat.le_of_ble_eq_true rfl) ?_
  change Ev 70 RX7 cX7_in 3 (some .boolean) 0 0 [some (.int a0), some (.int a1), some (.int a2)] [] I A L _
  unfold f_X7_in at h
  refine e_iload_n (pc' := 1) (i := 0) rfl rfl dX7_in_0 rfl ?_
  refine e_iload_n (pc' := 2) (i := 1) rfl rfl dX7_in_1 rfl ?_
  refine e_icmp_lt (tgt := 14) (pc' := 5) dX7_in_2 (by decide) rfl h (fun h => ?_) (fun h => ?_)
  · refine e_iconst (v := 0) (pc' := 15) (by decide) dX7_in_14 rfl ?_
    obtain rfl := g_re1 h
    exact e_zret dX7_in_15 (by decide)
  · refine e_iload_n (pc' := 6) (i := 0) rfl rfl dX7_in_5 rfl ?_
    refine e_iload_n (pc' := 7) (i := 2) rfl rfl dX7_in_6 rfl ?_
    refine e_icmp_gt (tgt := 14) (pc' := 10) dX7_in_7 (by decide) rfl h (fun h => ?_) (fun h => ?_)
    · refine e_iconst (v := 0) (pc' := 15) (by decide) dX7_in_14 rfl ?_
      obtain rfl := g_re1 h
      exact e_zret dX7_in_15 (by decide)
    · refine e_iconst (v := 1) (pc' := 11) (by decide) dX7_in_10 rfl ?_
      refine e_goto (tgt := 15) dX7_in_11 (by decide) ?_
      obtain rfl := g_re1 h
      exact e_zret dX7_in_15 (by decide)
set_option maxHeartbeats 4000000 in
set_option maxRecDepth 100000 in
theorem c_X7_isSign (a0 : Int32) (a1 : Int32) (a2 : Int32) {I : Nat → Int32} {A : Nat → Nat → Int32} {L : Nat → Int64} {t : Int32} (h : f_X7_isSign I A L a0 a1 a2 = some t) : GM 70 yX7_isSign cX7_isSign 3 (some .boolean) 1 [.int a0, .int a1, .int a2] I A L (some (.int t), (I, A, L)) := by
  refine gm_of (n := 0) (lc := [some (.int a0), some (.int a1), some (.int a2)]) (by decide +kernel) rfl (fun _ => Nat.le_of_ble_eq_true rfl) ?_
  change Ev 70 RX7 cX7_isSign 3 (some .boolean) 1 0 [some (.int a0), some (.int a1), some (.int a2)] [] I A L _
  unfold f_X7_isSign at h
  refine e_iload_n (pc' := 1) (i := 0) rfl rfl dX7_isSign_0 rfl ?_
  refine e_bipush (v := (-3)) (pc' := 3) (by decide) dX7_isSign_1 rfl ?_
  refine e_iconst (v := 3) (pc' := 4) (by decide) dX7_isSign_3 rfl ?_
  obtain ⟨v2, hF1, h⟩ := g_bd_e h
  refine e_callS_i (pc' := 7) dX7_isSign_4 rfl mw_851 ms_X7_in rfl (Nat.le_of_ble_eq_true rfl) (Nat.le_of_ble_eq_true rfl) (c_X7_in _ _ _ hF1) rfl ?_
  refine e_if_eq (tgt := 46) (pc' := 10) dX7_isSign_7 (by decide) rfl h (fun h => ?_) (fun h => ?_)
  · refine e_iconst (v := 0) (pc' := 47) (by decide) dX7_isSign_46 rfl ?_
    obtain rfl := g_re1 h
    exact e_zret dX7_isSign_47 (by decide)
  · refine e_iload_n (pc' := 11) (i := 1) rfl rfl dX7_isSign_10 rfl ?_
    refine e_bipush (v := (-3)) (pc' := 13) (by decide) dX7_isSign_11 rfl ?_
    refine e_iconst (v := 3) (pc' := 14) (by decide) dX7_isSign_13 rfl ?_
    obtain ⟨v4, hF3, h⟩ := g_bd_e h
    refine e_callS_i (pc' := 17) dX7_isSign_14 rfl mw_851 ms_X7_in rfl (Nat.le_of_ble_eq_true rfl) (Nat.le_of_ble_eq_true rfl) (c_X7_in _ _ _ hF3) rfl ?_
    refine e_if_eq (tgt := 46) (pc' := 20) dX7_isSign_17 (by decide) rfl h (fun h => ?_) (fun h => ?_)
    · refine e_iconst (v := 0) (pc' := 47) (by decide) dX7_isSign_46 rfl ?_
      obtain rfl := g_re1 h
      exact e_zret dX7_isSign_47 (by decide)
    · refine e_iload_n (pc' := 21) (i := 2) rfl rfl dX7_isSign_20 rfl ?_
      refine e_bipush (v := (-3)) (pc' := 23) (by decide) dX7_isSign_21 rfl ?_
      refine e_iconst (v := 3) (pc' := 24) (by decide) dX7_isSign_23 rfl ?_
      obtain ⟨v6, hF5, h⟩ := g_bd_e h
      refine e_callS_i (pc' := 27) dX7_isSign_24 rfl mw_851 ms_X7_in rfl (Nat.le_of_ble_eq_true rfl) (Nat.le_of_ble_eq_true rfl) (c_X7_in _ _ _ hF5) rfl ?_
      refine e_if_eq (tgt := 46) (pc' := 30) dX7_isSign_27 (by decide) rfl h (fun h => ?_) (fun h => ?_)
      · refine e_iconst (v := 0) (pc' := 47) (by decide) dX7_isSign_46 rfl ?_
        obtain rfl := g_re1 h
        exact e_zret dX7_isSign_47 (by decide)
      · refine e_iload_n (pc' := 31) (i := 0) rfl rfl dX7_isSign_30 rfl ?_
        refine e_if_ne (tgt := 42) (pc' := 34) dX7_isSign_31 (by decide) rfl h (fun h => ?_) (fun h => ?_)
        · refine e_iconst (v := 1) (pc' := 43) (by decide) dX7_isSign_42 rfl ?_
          refine e_goto (tgt := 47) dX7_isSign_43 (by decide) ?_
          obtain rfl := g_re1 h
          exact e_zret dX7_isSign_47 (by decide)
        · refine e_iload_n (pc' := 35) (i := 1) rfl rfl dX7_isSign_34 rfl ?_
          refine e_if_ne (tgt := 42) (pc' := 38) dX7_isSign_35 (by decide) rfl h (fun h => ?_) (fun h => ?_)
          · refine e_iconst (v := 1) (pc' := 43) (by decide) dX7_isSign_42 rfl ?_
            refine e_goto (tgt := 47) dX7_isSign_43 (by decide) ?_
            obtain rfl := g_re1 h
            exact e_zret dX7_isSign_47 (by decide)
          · refine e_iload_n (pc' := 39) (i := 2) rfl rfl dX7_isSign_38 rfl ?_
            refine e_if_eq (tgt := 46) (pc' := 42) dX7_isSign_39 (by decide) rfl h (fun h => ?_) (fun h => ?_)
            · refine e_iconst (v := 0) (pc' := 47) (by decide) dX7_isSign_46 rfl ?_
              obtain rfl := g_re1 h
              exact e_zret dX7_isSign_47 (by decide)
            · refine e_iconst (v := 1) (pc' := 43) (by decide) dX7_isSign_42 rfl ?_
              refine e_goto (tgt := 47) dX7_isSign_43 (by decide) ?_
              obtain rfl := g_re1 h
              exact e_zret dX7_isSign_47 (by decide)
set_option maxHeartbeats 4000000 in
set_option maxRecDepth 100000 in
theorem w_X7_aside_p2  : ∀ (n : Nat) (x1 : Int32) (I : Nat → Int32) (A : Nat → Nat → Int32) (L : Nat → Int64) (t : gS), f_X7_aside_p2 n x1 I A L = some t → Ev 70 RX7 cX7_aside 2 none 0 2 [some (.ref 59), some (.int x1)] [] I A L (none, t) := by
  intro n
  induction n with
  | zero =>
    intro x1 I A L t h
    cases h
  | succ n ih =>
    intro x1 I A L t h
    rw [f_X7_aside_p2] at h
    refine e_iload_n (pc' := 3) (i := 1) rfl rfl dX7_aside_2 rfl ?_
    refine e_sipush (v := 129) (pc' := 6) (by decide) dX7_aside_3 rfl ?_
    refine e_icmp_ge (tgt := 27) (pc' := 9) dX7_aside_6 (by decide) rfl h (fun h => ?_) (fun h => ?_)
    · obtain rfl := g_re1 h
      exact e_vret dX7_aside_27
    · refine e_aload_n (pc' := 10) (i := 0) rfl rfl dX7_aside_9 rfl ?_
      refine e_getR (a := 59) (b := 62) (k0 := 3) (pc' := 13) dX7_aside_10 rfl rfl (Nat.le_of_ble_eq_true rfl) (Nat.le_of_ble_eq_true rfl) rfl mw_797 rfl ?_
      refine e_iload_n (pc' := 14) (i := 1) rfl rfl dX7_aside_13 rfl ?_
      refine e_aload_n (pc' := 15) (i := 0) rfl rfl dX7_aside_14 rfl ?_
      refine e_getR (a := 59) (b := 60) (k0 := 0) (pc' := 18) dX7_aside_15 rfl rfl (Nat.le_of_ble_eq_true rfl) (Nat.le_of_ble_eq_true rfl) rfl mw_794 rfl ?_
      refine e_iload_n (pc' := 19) (i := 1) rfl rfl dX7_aside_18 rfl ?_
      refine e_iald (n := 129) (pc' := 20) dX7_aside_19 rfl rfl (Nat.le_of_ble_eq_true rfl) h (fun h => ?_)
      refine e_iast (n := 129) (pc' := 21) dX7_aside_20 rfl rfl (Nat.le_of_ble_eq_true rfl) h (fun h => ?_)
      refine e_ltA h (fun A1 h => ?_)
      refine e_iinc (pc' := 24) (v := (x1 + 1)) (lc' := [some (.ref 59), some (.int (x1 + 1))]) dX7_aside_21 rfl rfl rfl (Nat.le_of_ble_eq_true rfl) rfl rfl ?_
      refine e_goto (tgt := 2) dX7_aside_24 (by decide) ?_
      exact e_weak (lc' := [some (.ref 59), some (.int (x1 + 1))]) (gle_s (gle_s gle_0)) (ih _ _ _ _ _ h)
set_option maxHeartbeats 4000000 in
set_option maxRecDepth 100000 in
theorem c_X7_aside  {I : Nat → Int32} {A : Nat → Nat → Int32} {L : Nat → Int64} {I' : Nat → Int32} {A' : Nat → Nat → Int32} {L' : Nat → Int64} (h : f_X7_aside   I A L = some (I', A', L')) : GM 70 yX7_aside cX7_aside 2 none 0 [.ref 59] I A L (none, (I', A', L')) := by
  refine gm_of (n := 1) (lc := [some (.ref 59), none]) (by decide +kernel) rfl (fun _ => Nat.le_of_ble_eq_true rfl) ?_
  change Ev 70 RX7 cX7_aside 2 none 0 0 [some (.ref 59), none] [] I A L _
  unfold f_X7_aside at h
  refine e_iconst (v := 0) (pc' := 1) (by decide) dX7_aside_0 rfl ?_
  refine e_istore_n (pc' := 2) (i := 1) (lc' := [some (.ref 59), some (.int 0)]) rfl dX7_aside_1 rfl (Nat.le_of_ble_eq_true rfl) rfl rfl ?_
  exact e_weak (lc' := [some (.ref 59), some (.int 0)]) (gle_s (gle_s gle_0)) (w_X7_aside_p2  _ _ _ _ _ _ h)
set_option maxHeartbeats 4000000 in
set_option maxRecDepth 100000 in
theorem w_X7_keeps_p51  : ∀ (n : Nat) (x1 : Int32) (I : Nat → Int32) (A : Nat → Nat → Int32) (L : Nat → Int64) (t : gS), f_X7_keeps_p51 n x1 I A L = some t → Ev 70 RX7 cX7_keeps 2 none 0 51 [some (.ref 59), some (.int x1)] [] I A L (none, t) := by
  intro n
  induction n with
  | zero =>
    intro x1 I A L t h
    cases h
  | succ n ih =>
    intro x1 I A L t h
    rw [f_X7_keeps_p51] at h
    refine e_iload_n (pc' := 52) (i := 1) rfl rfl dX7_keeps_51 rfl ?_
    refine e_sipush (v := 129) (pc' := 55) (by decide) dX7_keeps_52 rfl ?_
    refine e_icmp_ge (tgt := 85) (pc' := 58) dX7_keeps_55 (by decide) rfl h (fun h => ?_) (fun h => ?_)
    · refine e_aload_n (pc' := 86) (i := 0) rfl rfl dX7_keeps_85 rfl ?_
      refine e_dup (pc' := 87) rfl dX7_keeps_86 rfl ?_
      refine e_getI (a := 59) (n := 946) (k0 := 2) (pc' := 90) dX7_keeps_87 rfl rfl (Nat.le_of_ble_eq_true rfl) (Nat.le_of_ble_eq_true rfl) rfl mw_796 rfl ?_
      refine e_iconst (v := 1) (pc' := 91) (by decide) dX7_keeps_90 rfl ?_
      refine e_iadd (pc' := 92) dX7_keeps_91 rfl ?_
      refine e_putI (a := 59) (n := 946) (k0 := 2) (pc' := 95) dX7_keeps_92 rfl rfl (Nat.le_of_ble_eq_true rfl) (Nat.le_of_ble_eq_true rfl) rfl mw_796 rfl rfl g_pI rfl rfl ?_
      refine e_ltI h (fun I1 h => ?_)
      obtain rfl := g_re1 h
      exact e_vret dX7_keeps_95
    · refine e_aload_n (pc' := 59) (i := 0) rfl rfl dX7_keeps_58 rfl ?_
      refine e_getR (a := 59) (b := 61) (k0 := 1) (pc' := 62) dX7_keeps_59 rfl rfl (Nat.le_of_ble_eq_true rfl) (Nat.le_of_ble_eq_true rfl) rfl mw_795 rfl ?_
      refine e_sipush (v := 129) (pc' := 65) (by decide) dX7_keeps_62 rfl ?_
      refine e_aload_n (pc' := 66) (i := 0) rfl rfl dX7_keeps_65 rfl ?_
      refine e_getI (a := 59) (n := 946) (k0 := 2) (pc' := 69) dX7_keeps_66 rfl rfl (Nat.le_of_ble_eq_true rfl) (Nat.le_of_ble_eq_true rfl) rfl mw_796 rfl ?_
      refine e_imul (pc' := 70) dX7_keeps_69 rfl ?_
      refine e_iload_n (pc' := 71) (i := 1) rfl rfl dX7_keeps_70 rfl ?_
      refine e_iadd (pc' := 72) dX7_keeps_71 rfl ?_
      refine e_aload_n (pc' := 73) (i := 0) rfl rfl dX7_keeps_72 rfl ?_
      refine e_getR (a := 59) (b := 62) (k0 := 3) (pc' := 76) dX7_keeps_73 rfl rfl (Nat.le_of_ble_eq_true rfl) (Nat.le_of_ble_eq_true rfl) rfl mw_797 rfl ?_
      refine e_iload_n (pc' := 77) (i := 1) rfl rfl dX7_keeps_76 rfl ?_
      refine e_iald (n := 129) (pc' := 78) dX7_keeps_77 rfl rfl (Nat.le_of_ble_eq_true rfl) h (fun h => ?_)
      refine e_iast (n := 645) (pc' := 79) dX7_keeps_78 rfl rfl (Nat.le_of_ble_eq_true rfl) h (fun h => ?_)
      refine e_ltA h (fun A2 h => ?_)
      refine e_iinc (pc' := 82) (v := (x1 + 1)) (lc' := [some (.ref 59), some (.int (x1 + 1))]) dX7_keeps_79 rfl rfl rfl (Nat.le_of_ble_eq_true rfl) rfl rfl ?_
      refine e_goto (tgt := 51) dX7_keeps_82 (by decide) ?_
      exact e_weak (lc' := [some (.ref 59), some (.int (x1 + 1))]) (gle_s (gle_s gle_0)) (ih _ _ _ _ _ h)
set_option maxHeartbeats 4000000 in
set_option maxRecDepth 100000 in
theorem w_X7_keeps_p10  : ∀ (n : Nat) (x1 : Int32) (I : Nat → Int32) (A : Nat → Nat → Int32) (L : Nat → Int64) (t : gS), f_X7_keeps_p10 n x1 I A L = some t → Ev 70 RX7 cX7_keeps 2 none 0 10 [some (.ref 59), some (.int x1)] [] I A L (none, t) := by
  intro n
  induction n with
  | zero =>
    intro x1 I A L t h
    cases h
  | succ n ih =>
    intro x1 I A L t h
    rw [f_X7_keeps_p10] at h
    refine e_iload_n (pc' := 11) (i := 1) rfl rfl dX7_keeps_10 rfl ?_
    refine e_sipush (v := 516) (pc' := 14) (by decide) dX7_keeps_11 rfl ?_
    refine e_icmp_ge (tgt := 39) (pc' := 17) dX7_keeps_14 (by decide) rfl h (fun h => ?_) (fun h => ?_)
    · refine e_aload_n (pc' := 40) (i := 0) rfl rfl dX7_keeps_39 rfl ?_
      refine e_dup (pc' := 41) rfl dX7_keeps_40 rfl ?_
      refine e_getI (a := 59) (n := 946) (k0 := 2) (pc' := 44) dX7_keeps_41 rfl rfl (Nat.le_of_ble_eq_true rfl) (Nat.le_of_ble_eq_true rfl) rfl mw_796 rfl ?_
      refine e_iconst (v := 1) (pc' := 45) (by decide) dX7_keeps_44 rfl ?_
      refine e_isub (pc' := 46) dX7_keeps_45 rfl ?_
      refine e_putI (a := 59) (n := 946) (k0 := 2) (pc' := 49) dX7_keeps_46 rfl rfl (Nat.le_of_ble_eq_true rfl) (Nat.le_of_ble_eq_true rfl) rfl mw_796 rfl rfl g_pI rfl rfl ?_
      refine e_ltI h (fun I1 h => ?_)
      refine e_iconst (v := 0) (pc' := 50) (by decide) dX7_keeps_49 rfl ?_
      refine e_istore_n (pc' := 51) (i := 1) (lc' := [some (.ref 59), some (.int 0)]) rfl dX7_keeps_50 rfl (Nat.le_of_ble_eq_true rfl) rfl rfl ?_
      exact e_weak (lc' := [some (.ref 59), some (.int 0)]) (gle_s (gle_s gle_0)) (w_X7_keeps_p51  _ _ _ _ _ _ h)
    · refine e_aload_n (pc' := 18) (i := 0) rfl rfl dX7_keeps_17 rfl ?_
      refine e_getR (a := 59) (b := 61) (k0 := 1) (pc' := 21) dX7_keeps_18 rfl rfl (Nat.le_of_ble_eq_true rfl) (Nat.le_of_ble_eq_true rfl) rfl mw_795 rfl ?_
      refine e_iload_n (pc' := 22) (i := 1) rfl rfl dX7_keeps_21 rfl ?_
      refine e_aload_n (pc' := 23) (i := 0) rfl rfl dX7_keeps_22 rfl ?_
      refine e_getR (a := 59) (b := 61) (k0 := 1) (pc' := 26) dX7_keeps_23 rfl rfl (Nat.le_of_ble_eq_true rfl) (Nat.le_of_ble_eq_true rfl) rfl mw_795 rfl ?_
      refine e_iload_n (pc' := 27) (i := 1) rfl rfl dX7_keeps_26 rfl ?_
      refine e_sipush (v := 129) (pc' := 30) (by decide) dX7_keeps_27 rfl ?_
      refine e_iadd (pc' := 31) dX7_keeps_30 rfl ?_
      refine e_iald (n := 645) (pc' := 32) dX7_keeps_31 rfl rfl (Nat.le_of_ble_eq_true rfl) h (fun h => ?_)
      refine e_iast (n := 645) (pc' := 33) dX7_keeps_32 rfl rfl (Nat.le_of_ble_eq_true rfl) h (fun h => ?_)
      refine e_ltA h (fun A2 h => ?_)
      refine e_iinc (pc' := 36) (v := (x1 + 1)) (lc' := [some (.ref 59), some (.int (x1 + 1))]) dX7_keeps_33 rfl rfl rfl (Nat.le_of_ble_eq_true rfl) rfl rfl ?_
      refine e_goto (tgt := 10) dX7_keeps_36 (by decide) ?_
      exact e_weak (lc' := [some (.ref 59), some (.int (x1 + 1))]) (gle_s (gle_s gle_0)) (ih _ _ _ _ _ h)
set_option maxHeartbeats 4000000 in
set_option maxRecDepth 100000 in
theorem c_X7_keeps  {I : Nat → Int32} {A : Nat → Nat → Int32} {L : Nat → Int64} {I' : Nat → Int32} {A' : Nat → Nat → Int32} {L' : Nat → Int64} (h : f_X7_keeps   I A L = some (I', A', L')) : GM 70 yX7_keeps cX7_keeps 2 none 0 [.ref 59] I A L (none, (I', A', L')) := by
  refine gm_of (n := 1) (lc := [some (.ref 59), none]) (by decide +kernel) rfl (fun _ => Nat.le_of_ble_eq_true rfl) ?_
  change Ev 70 RX7 cX7_keeps 2 none 0 0 [some (.ref 59), none] [] I A L _
  unfold f_X7_keeps at h
  refine e_aload_n (pc' := 1) (i := 0) rfl rfl dX7_keeps_0 rfl ?_
  refine e_getI (a := 59) (n := 946) (k0 := 2) (pc' := 4) dX7_keeps_1 rfl rfl (Nat.le_of_ble_eq_true rfl) (Nat.le_of_ble_eq_true rfl) rfl mw_796 rfl ?_
  refine e_iconst (v := 5) (pc' := 5) (by decide) dX7_keeps_4 rfl ?_
  refine e_icmp_ne (tgt := 49) (pc' := 8) dX7_keeps_5 (by decide) rfl h (fun h => ?_) (fun h => ?_)
  · refine e_iconst (v := 0) (pc' := 50) (by decide) dX7_keeps_49 rfl ?_
    refine e_istore_n (pc' := 51) (i := 1) (lc' := [some (.ref 59), some (.int 0)]) rfl dX7_keeps_50 rfl (Nat.le_of_ble_eq_true rfl) rfl rfl ?_
    exact e_weak (lc' := [some (.ref 59), some (.int 0)]) (gle_s (gle_s gle_0)) (w_X7_keeps_p51  _ _ _ _ _ _ h)
  · refine e_iconst (v := 0) (pc' := 9) (by decide) dX7_keeps_8 rfl ?_
    refine e_istore_n (pc' := 10) (i := 1) (lc' := [some (.ref 59), some (.int 0)]) rfl dX7_keeps_9 rfl (Nat.le_of_ble_eq_true rfl) rfl rfl ?_
    exact e_weak (lc' := [some (.ref 59), some (.int 0)]) (gle_s (gle_s gle_0)) (w_X7_keeps_p10  _ _ _ _ _ _ h)
set_option maxHeartbeats 4000000 in
set_option maxRecDepth 100000 in
theorem c_X7_comes (a0 : Int32) (a1 : Int32) (a2 : Int32) (a3 : Int32) {I : Nat → Int32} {A : Nat → Nat → Int32} {L : Nat → Int64} {I' : Nat → Int32} {A' : Nat → Nat → Int32} {L' : Nat → Int64} (h : f_X7_comes  a0 a1 a2 a3 I A L = some (I', A', L')) : GM 70 yX7_comes cX7_comes 6 none 0 [.ref 59, .int a0, .int a1, .int a2, .int a3] I A L (none, (I', A', L')) := by
  refine gm_of (n := 1) (lc := [some (.ref 59), some (.int a0), some (.int a1), some (.int a2), some (.int a3), none]) (by decide +kernel) rfl (fun _ => Nat.le_of_ble_eq_true rfl) ?_
  change Ev 70 RX7 cX7_comes 6 none 0 0 [some (.ref 59), some (.int a0), some (.int a1), some (.int a2), some (.int a3), none] [] I A L _
  unfold f_X7_comes at h
  refine e_iconst (v := 1) (pc' := 1) (by decide) dX7_comes_0 rfl ?_
  refine e_iconst (v := 4) (pc' := 2) (by decide) dX7_comes_1 rfl ?_
  refine e_aload_n (pc' := 3) (i := 0) rfl rfl dX7_comes_2 rfl ?_
  refine e_getR (a := 59) (b := 60) (k0 := 0) (pc' := 6) dX7_comes_3 rfl rfl (Nat.le_of_ble_eq_true rfl) (Nat.le_of_ble_eq_true rfl) rfl mw_794 rfl ?_
  refine e_iconst (v := 0) (pc' := 7) (by decide) dX7_comes_6 rfl ?_
  refine e_iald (n := 129) (pc' := 8) dX7_comes_7 rfl rfl (Nat.le_of_ble_eq_true rfl) h (fun h => ?_)
  refine e_imul (pc' := 9) dX7_comes_8 rfl ?_
  refine e_iadd (pc' := 10) dX7_comes_9 rfl ?_
  refine e_lt h (fun v1 h => ?_)
  refine e_istore (pc' := 12) (i := 5) (lc' := [some (.ref 59), some (.int a0), some (.int a1), some (.int a2), some (.int a3), some (.int v1)]) dX7_comes_10 rfl (Nat.le_of_ble_eq_true rfl) rfl rfl ?_
  refine e_aload_n (pc' := 13) (i := 0) rfl rfl dX7_comes_12 rfl ?_
  refine e_getR (a := 59) (b := 60) (k0 := 0) (pc' := 16) dX7_comes_13 rfl rfl (Nat.le_of_ble_eq_true rfl) (Nat.le_of_ble_eq_true rfl) rfl mw_794 rfl ?_
  refine e_iload (pc' := 18) (i := 5) rfl dX7_comes_16 rfl ?_
  refine e_iload_n (pc' := 19) (i := 1) rfl rfl dX7_comes_18 rfl ?_
  refine e_iast (n := 129) (pc' := 20) dX7_comes_19 rfl rfl (Nat.le_of_ble_eq_true rfl) h (fun h => ?_)
  refine e_ltA h (fun A2 h => ?_)
  refine e_aload_n (pc' := 21) (i := 0) rfl rfl dX7_comes_20 rfl ?_
  refine e_getR (a := 59) (b := 60) (k0 := 0) (pc' := 24) dX7_comes_21 rfl rfl (Nat.le_of_ble_eq_true rfl) (Nat.le_of_ble_eq_true rfl) rfl mw_794 rfl ?_
  refine e_iload (pc' := 26) (i := 5) rfl dX7_comes_24 rfl ?_
  refine e_iconst (v := 1) (pc' := 27) (by decide) dX7_comes_26 rfl ?_
  refine e_iadd (pc' := 28) dX7_comes_27 rfl ?_
  refine e_iload_n (pc' := 29) (i := 2) rfl rfl dX7_comes_28 rfl ?_
  refine e_iast (n := 129) (pc' := 30) dX7_comes_29 rfl rfl (Nat.le_of_ble_eq_true rfl) h (fun h => ?_)
  refine e_ltA h (fun A3 h => ?_)
  refine e_aload_n (pc' := 31) (i := 0) rfl rfl dX7_comes_30 rfl ?_
  refine e_getR (a := 59) (b := 60) (k0 := 0) (pc' := 34) dX7_comes_31 rfl rfl (Nat.le_of_ble_eq_true rfl) (Nat.le_of_ble_eq_true rfl) rfl mw_794 rfl ?_
  refine e_iload (pc' := 36) (i := 5) rfl dX7_comes_34 rfl ?_
  refine e_iconst (v := 2) (pc' := 37) (by decide) dX7_comes_36 rfl ?_
  refine e_iadd (pc' := 38) dX7_comes_37 rfl ?_
  refine e_iload_n (pc' := 39) (i := 3) rfl rfl dX7_comes_38 rfl ?_
  refine e_iast (n := 129) (pc' := 40) dX7_comes_39 rfl rfl (Nat.le_of_ble_eq_true rfl) h (fun h => ?_)
  refine e_ltA h (fun A4 h => ?_)
  refine e_aload_n (pc' := 41) (i := 0) rfl rfl dX7_comes_40 rfl ?_
  refine e_getR (a := 59) (b := 60) (k0 := 0) (pc' := 44) dX7_comes_41 rfl rfl (Nat.le_of_ble_eq_true rfl) (Nat.le_of_ble_eq_true rfl) rfl mw_794 rfl ?_
  refine e_iload (pc' := 46) (i := 5) rfl dX7_comes_44 rfl ?_
  refine e_iconst (v := 3) (pc' := 47) (by decide) dX7_comes_46 rfl ?_
  refine e_iadd (pc' := 48) dX7_comes_47 rfl ?_
  refine e_iload (pc' := 50) (i := 4) rfl dX7_comes_48 rfl ?_
  refine e_iast (n := 129) (pc' := 51) dX7_comes_50 rfl rfl (Nat.le_of_ble_eq_true rfl) h (fun h => ?_)
  refine e_ltA h (fun A5 h => ?_)
  refine e_aload_n (pc' := 52) (i := 0) rfl rfl dX7_comes_51 rfl ?_
  refine e_getR (a := 59) (b := 60) (k0 := 0) (pc' := 55) dX7_comes_52 rfl rfl (Nat.le_of_ble_eq_true rfl) (Nat.le_of_ble_eq_true rfl) rfl mw_794 rfl ?_
  refine e_iconst (v := 0) (pc' := 56) (by decide) dX7_comes_55 rfl ?_
  refine e_dup2 (pc' := 57) rfl rfl dX7_comes_56 rfl ?_
  refine e_iald (n := 129) (pc' := 58) dX7_comes_57 rfl rfl (Nat.le_of_ble_eq_true rfl) h (fun h => ?_)
  refine e_iconst (v := 1) (pc' := 59) (by decide) dX7_comes_58 rfl ?_
  refine e_iadd (pc' := 60) dX7_comes_59 rfl ?_
  refine e_iast (n := 129) (pc' := 61) dX7_comes_60 rfl rfl (Nat.le_of_ble_eq_true rfl) h (fun h => ?_)
  refine e_ltA h (fun A6 h => ?_)
  obtain ⟨rfl, rfl, rfl⟩ := g_re3 h
  exact e_vret dX7_comes_61
set_option maxHeartbeats 4000000 in
set_option maxRecDepth 100000 in
theorem w_X7_plane_p20  : ∀ (I : Nat → Int32) (A : Nat → Nat → Int32) (L : Nat → Int64) (t : (Int32 × gS)), f_X7_plane_p20 I A L = some t → Ev 70 RX7 cX7_plane 5 (some .int) 2 20 [some (.ref 59), none, none, none, none] [] I A L (some (.int t.1), t.2) := by
  intro  I A L t h
  unfold f_X7_plane_p20 at h
  refine e_aload_n (pc' := 21) (i := 0) rfl rfl dX7_plane_20 rfl ?_
  refine e_bipush (v := (-2)) (pc' := 23) (by decide) dX7_plane_21 rfl ?_
  obtain ⟨v5, I2, A3, L4, hF1, h⟩ := g_b2_e h
  refine e_callV_i (pc' := 26) dX7_plane_23 rfl mw_854 mv_X7_refuses rfl (Nat.le_of_ble_eq_true rfl) (Nat.le_of_ble_eq_true rfl) rfl (Nat.le_of_ble_eq_true rfl) (Nat.le_of_ble_eq_true rfl) rfl (c_X7_refuses _ hF1) rfl ?_
  obtain rfl := g_re1 h
  exact e_iret dX7_plane_26
set_option maxHeartbeats 4000000 in
set_option maxRecDepth 100000 in
theorem c_X7_plane (a0 : Int32) (a1 : Int32) (a2 : Int32) (a3 : Int32) {I : Nat → Int32} {A : Nat → Nat → Int32} {L : Nat → Int64} {t : Int32} {I' : Nat → Int32} {A' : Nat → Nat → Int32} {L' : Nat → Int64} (h : f_X7_plane  a0 a1 a2 a3 I A L = some (t, I', A', L')) : GM 70 yX7_plane cX7_plane 5 (some .int) 2 [.ref 59, .int a0, .int a1, .int a2, .int a3] I A L (some (.int t), (I', A', L')) := by
  refine gm_of (n := 0) (lc := [some (.ref 59), some (.int a0), some (.int a1), some (.int a2), some (.int a3)]) (by decide +kernel) rfl (fun _ => Nat.le_of_ble_eq_true rfl) ?_
  change Ev 70 RX7 cX7_plane 5 (some .int) 2 0 [some (.ref 59), some (.int a0), some (.int a1), some (.int a2), some (.int a3)] [] I A L _
  unfold f_X7_plane at h
  refine e_iload_n (pc' := 1) (i := 1) rfl rfl dX7_plane_0 rfl ?_
  refine e_iload_n (pc' := 2) (i := 2) rfl rfl dX7_plane_1 rfl ?_
  refine e_iload_n (pc' := 3) (i := 3) rfl rfl dX7_plane_2 rfl ?_
  obtain ⟨v2, hF1, h⟩ := g_bd_e h
  refine e_callS_i (pc' := 6) dX7_plane_3 rfl mw_848 ms_X7_isSign rfl (Nat.le_of_ble_eq_true rfl) (Nat.le_of_ble_eq_true rfl) (c_X7_isSign _ _ _ hF1) rfl ?_
  refine e_if_eq (tgt := 20) (pc' := 9) dX7_plane_6 (by decide) rfl h (fun h => ?_) (fun h => ?_)
  · exact e_weak (lc' := [some (.ref 59), none, none, none, none]) (gle_s (gle_n (gle_n (gle_n (gle_n gle_0))))) (w_X7_plane_p20  _ _ _ _ h)
  · refine e_iload (pc' := 11) (i := 4) rfl dX7_plane_9 rfl ?_
    refine e_iconst (v := 1) (pc' := 12) (by decide) dX7_plane_11 rfl ?_
    refine e_bipush (v := 60) (pc' := 14) (by decide) dX7_plane_12 rfl ?_
    obtain ⟨v4, hF3, h⟩ := g_bd_e h
    refine e_callS_i (pc' := 17) dX7_plane_14 rfl mw_851 ms_X7_in rfl (Nat.le_of_ble_eq_true rfl) (Nat.le_of_ble_eq_true rfl) (c_X7_in _ _ _ hF3) rfl ?_
    refine e_if_ne (tgt := 27) (pc' := 20) dX7_plane_17 (by decide) rfl h (fun h => ?_) (fun h => ?_)
    · refine e_aload_n (pc' := 28) (i := 0) rfl rfl dX7_plane_27 rfl ?_
      refine e_getR (a := 59) (b := 60) (k0 := 0) (pc' := 31) dX7_plane_28 rfl rfl (Nat.le_of_ble_eq_true rfl) (Nat.le_of_ble_eq_true rfl) rfl mw_794 rfl ?_
      refine e_iconst (v := 0) (pc' := 32) (by decide) dX7_plane_31 rfl ?_
      refine e_iald (n := 129) (pc' := 33) dX7_plane_32 rfl rfl (Nat.le_of_ble_eq_true rfl) h (fun h => ?_)
      refine e_bipush (v := 32) (pc' := 35) (by decide) dX7_plane_33 rfl ?_
      refine e_icmp_ne (tgt := 45) (pc' := 38) dX7_plane_35 (by decide) rfl h (fun h => ?_) (fun h => ?_)
      · refine e_aload_n (pc' := 46) (i := 0) rfl rfl dX7_plane_45 rfl ?_
        obtain ⟨I6, A7, L8, hF5, h⟩ := g_b1_e h
        refine e_callV_v (pc' := 49) dX7_plane_46 rfl mw_858 mv_X7_aside rfl (Nat.le_of_ble_eq_true rfl) (Nat.le_of_ble_eq_true rfl) rfl (Nat.le_of_ble_eq_true rfl) (Nat.le_of_ble_eq_true rfl) rfl (c_X7_aside hF5) rfl ?_
        refine e_aload_n (pc' := 50) (i := 0) rfl rfl dX7_plane_49 rfl ?_
        obtain ⟨I10, A11, L12, hF9, h⟩ := g_b1_e h
        refine e_callV_v (pc' := 53) dX7_plane_50 rfl mw_862 mv_X7_keeps rfl (Nat.le_of_ble_eq_true rfl) (Nat.le_of_ble_eq_true rfl) rfl (Nat.le_of_ble_eq_true rfl) (Nat.le_of_ble_eq_true rfl) rfl (c_X7_keeps hF9) rfl ?_
        refine e_aload_n (pc' := 54) (i := 0) rfl rfl dX7_plane_53 rfl ?_
        refine e_iload_n (pc' := 55) (i := 1) rfl rfl dX7_plane_54 rfl ?_
        refine e_iload_n (pc' := 56) (i := 2) rfl rfl dX7_plane_55 rfl ?_
        refine e_iload_n (pc' := 57) (i := 3) rfl rfl dX7_plane_56 rfl ?_
        refine e_iload (pc' := 59) (i := 4) rfl dX7_plane_57 rfl ?_
        obtain ⟨I14, A15, L16, hF13, h⟩ := g_b1_e h
        refine e_callV_v (pc' := 62) dX7_plane_59 rfl mw_866 mv_X7_comes rfl (Nat.le_of_ble_eq_true rfl) (Nat.le_of_ble_eq_true rfl) rfl (Nat.le_of_ble_eq_true rfl) (Nat.le_of_ble_eq_true rfl) rfl (c_X7_comes _ _ _ _ hF13) rfl ?_
        refine e_aload_n (pc' := 63) (i := 0) rfl rfl dX7_plane_62 rfl ?_
        refine e_getR (a := 59) (b := 60) (k0 := 0) (pc' := 66) dX7_plane_63 rfl rfl (Nat.le_of_ble_eq_true rfl) (Nat.le_of_ble_eq_true rfl) rfl mw_794 rfl ?_
        refine e_iconst (v := 0) (pc' := 67) (by decide) dX7_plane_66 rfl ?_
        refine e_iald (n := 129) (pc' := 68) dX7_plane_67 rfl rfl (Nat.le_of_ble_eq_true rfl) h (fun h => ?_)
        refine e_iconst (v := 1) (pc' := 69) (by decide) dX7_plane_68 rfl ?_
        refine e_isub (pc' := 70) dX7_plane_69 rfl ?_
        obtain ⟨rfl, rfl, rfl, rfl⟩ := g_re4 h
        exact e_iret dX7_plane_70
      · refine e_aload_n (pc' := 39) (i := 0) rfl rfl dX7_plane_38 rfl ?_
        refine e_bipush (v := (-4)) (pc' := 41) (by decide) dX7_plane_39 rfl ?_
        obtain ⟨v21, I18, A19, L20, hF17, h⟩ := g_b2_e h
        refine e_callV_i (pc' := 44) dX7_plane_41 rfl mw_854 mv_X7_refuses rfl (Nat.le_of_ble_eq_true rfl) (Nat.le_of_ble_eq_true rfl) rfl (Nat.le_of_ble_eq_true rfl) (Nat.le_of_ble_eq_true rfl) rfl (c_X7_refuses _ hF17) rfl ?_
        obtain ⟨rfl, rfl, rfl, rfl⟩ := g_re4 h
        exact e_iret dX7_plane_44
    · exact e_weak (lc' := [some (.ref 59), none, none, none, none]) (gle_s (gle_n (gle_n (gle_n (gle_n gle_0))))) (w_X7_plane_p20  _ _ _ _ h)
set_option maxHeartbeats 4000000 in
set_option maxRecDepth 100000 in
theorem w_X7_turns_p66  : ∀ (x1 : Int32) (x3 : Int32) (x4 : Int32) (s1 : Int32) (s2 : Int32) (I : Nat → Int32) (A : Nat → Nat → Int32) (L : Nat → Int64) (t : gS), f_X7_turns_p66 x1 x3 x4 s1 s2 I A L = some t → Ev 70 RX7 cX7_turns 5 none 0 66 [some (.ref 59), some (.int x1), none, some (.int x3), some (.int x4)] [.int s2, .int s1, .ref 69] I A L (none, t) := by
  intro x1 x3 x4 s1 s2 I A L t h
  unfold f_X7_turns_p66 at h
  refine e_iast (n := 3) (pc' := 67) dX7_turns_66 rfl rfl (Nat.le_of_ble_eq_true rfl) h (fun h => ?_)
  refine e_ltA h (fun A1 h => ?_)
  refine e_aload_n (pc' := 68) (i := 0) rfl rfl dX7_turns_67 rfl ?_
  refine e_getR (a := 59) (b := 69) (k0 := 15) (pc' := 71) dX7_turns_68 rfl rfl (Nat.le_of_ble_eq_true rfl) (Nat.le_of_ble_eq_true rfl) rfl mw_809 rfl ?_
  refine e_iconst (v := 2) (pc' := 72) (by decide) dX7_turns_71 rfl ?_
  refine e_iload_n (pc' := 73) (i := 1) rfl rfl dX7_turns_72 rfl ?_
  refine e_if_ne (tgt := 82) (pc' := 76) dX7_turns_73 (by decide) rfl h (fun h => ?_) (fun h => ?_)
  · refine e_iload_n (pc' := 83) (i := 1) rfl rfl dX7_turns_82 rfl ?_
    refine e_iconst (v := 4) (pc' := 84) (by decide) dX7_turns_83 rfl ?_
    refine e_icmp_ne (tgt := 91) (pc' := 87) dX7_turns_84 (by decide) rfl h (fun h => ?_) (fun h => ?_)
    · refine e_iload (pc' := 93) (i := 4) rfl dX7_turns_91 rfl ?_
      refine e_iast (n := 3) (pc' := 94) dX7_turns_93 rfl rfl (Nat.le_of_ble_eq_true rfl) h (fun h => ?_)
      refine e_ltA h (fun A2 h => ?_)
      obtain rfl := g_re1 h
      exact e_vret dX7_turns_94
    · refine e_iload_n (pc' := 88) (i := 3) rfl rfl dX7_turns_87 rfl ?_
      refine e_goto (tgt := 93) dX7_turns_88 (by decide) ?_
      refine e_iast (n := 3) (pc' := 94) dX7_turns_93 rfl rfl (Nat.le_of_ble_eq_true rfl) h (fun h => ?_)
      refine e_ltA h (fun A3 h => ?_)
      obtain rfl := g_re1 h
      exact e_vret dX7_turns_94
  · refine e_iload (pc' := 78) (i := 4) rfl dX7_turns_76 rfl ?_
    refine e_ineg (pc' := 79) dX7_turns_78 rfl ?_
    refine e_goto (tgt := 93) dX7_turns_79 (by decide) ?_
    refine e_iast (n := 3) (pc' := 94) dX7_turns_93 rfl rfl (Nat.le_of_ble_eq_true rfl) h (fun h => ?_)
    refine e_ltA h (fun A4 h => ?_)
    obtain rfl := g_re1 h
    exact e_vret dX7_turns_94
set_option maxHeartbeats 4000000 in
set_option maxRecDepth 100000 in
theorem w_X7_turns_p51  : ∀ (x1 : Int32) (x3 : Int32) (x4 : Int32) (s1 : Int32) (I : Nat → Int32) (A : Nat → Nat → Int32) (L : Nat → Int64) (t : gS), f_X7_turns_p51 x1 x3 x4 s1 I A L = some t → Ev 70 RX7 cX7_turns 5 none 0 51 [some (.ref 59), some (.int x1), none, some (.int x3), some (.int x4)] [.int s1, .ref 69] I A L (none, t) := by
  intro x1 x3 x4 s1 I A L t h
  unfold f_X7_turns_p51 at h
  refine e_iload_n (pc' := 52) (i := 3) rfl rfl dX7_turns_51 rfl ?_
  refine e_ineg (pc' := 53) dX7_turns_52 rfl ?_
  refine e_goto (tgt := 66) dX7_turns_53 (by decide) ?_
  exact e_weak (lc' := [some (.ref 59), some (.int x1), none, some (.int x3), some (.int x4)]) (gle_s (gle_s (gle_n (gle_s (gle_s gle_0))))) (w_X7_turns_p66  _ _ _ _ _ _ _ _ _ h)
set_option maxHeartbeats 4000000 in
set_option maxRecDepth 100000 in
theorem w_X7_turns_p36  : ∀ (x1 : Int32) (x2 : Int32) (x3 : Int32) (x4 : Int32) (s1 : Int32) (s2 : Int32) (I : Nat → Int32) (A : Nat → Nat → Int32) (L : Nat → Int64) (t : gS), f_X7_turns_p36 x1 x2 x3 x4 s1 s2 I A L = some t → Ev 70 RX7 cX7_turns 5 none 0 36 [some (.ref 59), some (.int x1), some (.int x2), some (.int x3), some (.int x4)] [.int s2, .int s1, .ref 69] I A L (none, t) := by
  intro x1 x2 x3 x4 s1 s2 I A L t h
  unfold f_X7_turns_p36 at h
  refine e_iast (n := 3) (pc' := 37) dX7_turns_36 rfl rfl (Nat.le_of_ble_eq_true rfl) h (fun h => ?_)
  refine e_ltA h (fun A1 h => ?_)
  refine e_aload_n (pc' := 38) (i := 0) rfl rfl dX7_turns_37 rfl ?_
  refine e_getR (a := 59) (b := 69) (k0 := 15) (pc' := 41) dX7_turns_38 rfl rfl (Nat.le_of_ble_eq_true rfl) (Nat.le_of_ble_eq_true rfl) rfl mw_809 rfl ?_
  refine e_iconst (v := 1) (pc' := 42) (by decide) dX7_turns_41 rfl ?_
  refine e_iload_n (pc' := 43) (i := 1) rfl rfl dX7_turns_42 rfl ?_
  refine e_if_eq (tgt := 51) (pc' := 46) dX7_turns_43 (by decide) rfl h (fun h => ?_) (fun h => ?_)
  · exact e_weak (lc' := [some (.ref 59), some (.int x1), none, some (.int x3), some (.int x4)]) (gle_s (gle_s (gle_n (gle_s (gle_s gle_0))))) (w_X7_turns_p51  _ _ _ _ _ _ _ _ h)
  · refine e_iload_n (pc' := 47) (i := 1) rfl rfl dX7_turns_46 rfl ?_
    refine e_iconst (v := 2) (pc' := 48) (by decide) dX7_turns_47 rfl ?_
    refine e_icmp_ne (tgt := 56) (pc' := 51) dX7_turns_48 (by decide) rfl h (fun h => ?_) (fun h => ?_)
    · refine e_iload_n (pc' := 57) (i := 1) rfl rfl dX7_turns_56 rfl ?_
      refine e_iconst (v := 1) (pc' := 58) (by decide) dX7_turns_57 rfl ?_
      refine e_icmp_ne (tgt := 65) (pc' := 61) dX7_turns_58 (by decide) rfl h (fun h => ?_) (fun h => ?_)
      · refine e_iload_n (pc' := 66) (i := 2) rfl rfl dX7_turns_65 rfl ?_
        exact e_weak (lc' := [some (.ref 59), some (.int x1), none, some (.int x3), some (.int x4)]) (gle_s (gle_s (gle_n (gle_s (gle_s gle_0))))) (w_X7_turns_p66  _ _ _ _ _ _ _ _ _ h)
      · refine e_iload_n (pc' := 62) (i := 3) rfl rfl dX7_turns_61 rfl ?_
        refine e_goto (tgt := 66) dX7_turns_62 (by decide) ?_
        exact e_weak (lc' := [some (.ref 59), some (.int x1), none, some (.int x3), some (.int x4)]) (gle_s (gle_s (gle_n (gle_s (gle_s gle_0))))) (w_X7_turns_p66  _ _ _ _ _ _ _ _ _ h)
    · exact e_weak (lc' := [some (.ref 59), some (.int x1), none, some (.int x3), some (.int x4)]) (gle_s (gle_s (gle_n (gle_s (gle_s gle_0))))) (w_X7_turns_p51  _ _ _ _ _ _ _ _ h)
set_option maxHeartbeats 4000000 in
set_option maxRecDepth 100000 in
theorem c_X7_turns (a0 : Int32) (a1 : Int32) (a2 : Int32) (a3 : Int32) {I : Nat → Int32} {A : Nat → Nat → Int32} {L : Nat → Int64} {I' : Nat → Int32} {A' : Nat → Nat → Int32} {L' : Nat → Int64} (h : f_X7_turns  a0 a1 a2 a3 I A L = some (I', A', L')) : GM 70 yX7_turns cX7_turns 5 none 0 [.ref 59, .int a0, .int a1, .int a2, .int a3] I A L (none, (I', A', L')) := by
  refine gm_of (n := 0) (lc := [some (.ref 59), some (.int a0), some (.int a1), some (.int a2), some (.int a3)]) (by decide +kernel) rfl (fun _ => Nat.le_of_ble_eq_true rfl) ?_
  change Ev 70 RX7 cX7_turns 5 none 0 0 [some (.ref 59), some (.int a0), some (.int a1), some (.int a2), some (.int a3)] [] I A L _
  unfold f_X7_turns at h
  refine e_aload_n (pc' := 1) (i := 0) rfl rfl dX7_turns_0 rfl ?_
  refine e_getR (a := 59) (b := 69) (k0 := 15) (pc' := 4) dX7_turns_1 rfl rfl (Nat.le_of_ble_eq_true rfl) (Nat.le_of_ble_eq_true rfl) rfl mw_809 rfl ?_
  refine e_iconst (v := 0) (pc' := 5) (by decide) dX7_turns_4 rfl ?_
  refine e_iload_n (pc' := 6) (i := 1) rfl rfl dX7_turns_5 rfl ?_
  refine e_iconst (v := 3) (pc' := 7) (by decide) dX7_turns_6 rfl ?_
  refine e_icmp_ge (tgt := 15) (pc' := 10) dX7_turns_7 (by decide) rfl h (fun h => ?_) (fun h => ?_)
  · refine e_iload_n (pc' := 16) (i := 1) rfl rfl dX7_turns_15 rfl ?_
    refine e_iconst (v := 3) (pc' := 17) (by decide) dX7_turns_16 rfl ?_
    refine e_icmp_ne (tgt := 25) (pc' := 20) dX7_turns_17 (by decide) rfl h (fun h => ?_) (fun h => ?_)
    · refine e_iload_n (pc' := 26) (i := 1) rfl rfl dX7_turns_25 rfl ?_
      refine e_iconst (v := 4) (pc' := 27) (by decide) dX7_turns_26 rfl ?_
      refine e_icmp_ne (tgt := 35) (pc' := 30) dX7_turns_27 (by decide) rfl h (fun h => ?_) (fun h => ?_)
      · refine e_iload_n (pc' := 36) (i := 3) rfl rfl dX7_turns_35 rfl ?_
        exact e_weak (lc' := [some (.ref 59), some (.int a0), some (.int a1), some (.int a2), some (.int a3)]) (gle_s (gle_s (gle_s (gle_s (gle_s gle_0))))) (w_X7_turns_p36  _ _ _ _ _ _ _ _ _ _ h)
      · refine e_iload (pc' := 32) (i := 4) rfl dX7_turns_30 rfl ?_
        refine e_goto (tgt := 36) dX7_turns_32 (by decide) ?_
        exact e_weak (lc' := [some (.ref 59), some (.int a0), some (.int a1), some (.int a2), some (.int a3)]) (gle_s (gle_s (gle_s (gle_s (gle_s gle_0))))) (w_X7_turns_p36  _ _ _ _ _ _ _ _ _ _ h)
    · refine e_iload_n (pc' := 21) (i := 3) rfl rfl dX7_turns_20 rfl ?_
      refine e_ineg (pc' := 22) dX7_turns_21 rfl ?_
      refine e_goto (tgt := 36) dX7_turns_22 (by decide) ?_
      exact e_weak (lc' := [some (.ref 59), some (.int a0), some (.int a1), some (.int a2), some (.int a3)]) (gle_s (gle_s (gle_s (gle_s (gle_s gle_0))))) (w_X7_turns_p36  _ _ _ _ _ _ _ _ _ _ h)
  · refine e_iload_n (pc' := 11) (i := 2) rfl rfl dX7_turns_10 rfl ?_
    refine e_ineg (pc' := 12) dX7_turns_11 rfl ?_
    refine e_goto (tgt := 36) dX7_turns_12 (by decide) ?_
    exact e_weak (lc' := [some (.ref 59), some (.int a0), some (.int a1), some (.int a2), some (.int a3)]) (gle_s (gle_s (gle_s (gle_s (gle_s gle_0))))) (w_X7_turns_p36  _ _ _ _ _ _ _ _ _ _ h)
set_option maxHeartbeats 4000000 in
set_option maxRecDepth 100000 in
theorem w_X7_laysFamily_p80  (k58 : Int32 → Int32 → Int32 → (Nat → Int32) → (Nat → Nat → Int32) → (Nat → Int64) → Option (Int32 × gS)) (hk58 : ∀ (x1 : Int32) (x5 : Int32) (x6 : Int32) (I : Nat → Int32) (A : Nat → Nat → Int32) (L : Nat → Int64) (t : (Int32 × gS)), k58 x1 x5 x6 I A L = some t → Ev 70 RX7 cX7_laysFamily 10 (some .int) 1 58 [some (.ref 59), some (.int x1), none, none, none, some (.int x5), some (.int x6), none, none, none] [] I A L (some (.int t.1), t.2)) (k69 : Int32 → Int32 → Int32 → Int32 → (Nat → Int32) → (Nat → Nat → Int32) → (Nat → Int64) → Option (Int32 × gS)) (hk69 : ∀ (x1 : Int32) (x5 : Int32) (x6 : Int32) (x7 : Int32) (I : Nat → Int32) (A : Nat → Nat → Int32) (L : Nat → Int64) (t : (Int32 × gS)), k69 x1 x5 x6 x7 I A L = some t → Ev 70 RX7 cX7_laysFamily 10 (some .int) 1 69 [some (.ref 59), some (.int x1), none, none, none, some (.int x5), some (.int x6), some (.int x7), none, none] [] I A L (some (.int t.1), t.2)) : ∀ (n : Nat) (x1 : Int32) (x5 : Int32) (x6 : Int32) (x7 : Int32) (x8 : Int32) (I : Nat → Int32) (A : Nat → Nat → Int32) (L : Nat → Int64) (t : (Int32 × gS)), f_X7_laysFamily_p80 k58 k69 n x1 x5 x6 x7 x8 I A L = some t → Ev 70 RX7 cX7_laysFamily 10 (some .int) 1 80 [some (.ref 59), some (.int x1), none, none, none, some (.int x5), some (.int x6), some (.int x7), some (.int x8), none] [] I A L (some (.int t.1), t.2) := by
  intro n
  induction n with
  | zero =>
    intro x1 x5 x6 x7 x8 I A L t h
    cases h
  | succ n ih =>
    intro x1 x5 x6 x7 x8 I A L t h
    rw [f_X7_laysFamily_p80] at h
    refine e_iload (pc' := 82) (i := 8) rfl dX7_laysFamily_80 rfl ?_
    refine e_bipush (v := 6) (pc' := 84) (by decide) dX7_laysFamily_82 rfl ?_
    refine e_icmp_ge (tgt := 201) (pc' := 87) dX7_laysFamily_84 (by decide) rfl h (fun h => ?_) (fun h => ?_)
    · refine e_iinc (pc' := 204) (v := (x7 + 1)) (lc' := [some (.ref 59), some (.int x1), none, none, none, some (.int x5), some (.int x6), some (.int (x7 + 1)), some (.int x8), none]) dX7_laysFamily_201 rfl rfl rfl (Nat.le_of_ble_eq_true rfl) rfl rfl ?_
      refine e_goto (tgt := 69) dX7_laysFamily_204 (by decide) ?_
      exact e_weak (lc' := [some (.ref 59), some (.int x1), none, none, none, some (.int x5), some (.int x6), some (.int (x7 + 1)), none, none]) (gle_s (gle_s (gle_n (gle_n (gle_n (gle_s (gle_s (gle_s (gle_n (gle_n gle_0)))))))))) (hk69 _ _ _ _ _ _ _ _ h)
    · refine e_aload_n (pc' := 88) (i := 0) rfl rfl dX7_laysFamily_87 rfl ?_
      refine e_getR (a := 59) (b := 67) (k0 := 13) (pc' := 91) dX7_laysFamily_88 rfl rfl (Nat.le_of_ble_eq_true rfl) (Nat.le_of_ble_eq_true rfl) rfl mw_807 rfl ?_
      refine e_iload (pc' := 93) (i := 7) rfl dX7_laysFamily_91 rfl ?_
      refine e_zald (n := 343) (pc' := 94) dX7_laysFamily_93 rfl rfl (Nat.le_of_ble_eq_true rfl) h (fun h => ?_)
      refine e_if_eq (tgt := 201) (pc' := 97) dX7_laysFamily_94 (by decide) rfl h (fun h => ?_) (fun h => ?_)
      · refine e_iinc (pc' := 204) (v := (x7 + 1)) (lc' := [some (.ref 59), some (.int x1), none, none, none, some (.int x5), some (.int x6), some (.int (x7 + 1)), some (.int x8), none]) dX7_laysFamily_201 rfl rfl rfl (Nat.le_of_ble_eq_true rfl) rfl rfl ?_
        refine e_goto (tgt := 69) dX7_laysFamily_204 (by decide) ?_
        exact e_weak (lc' := [some (.ref 59), some (.int x1), none, none, none, some (.int x5), some (.int x6), some (.int (x7 + 1)), none, none]) (gle_s (gle_s (gle_n (gle_n (gle_n (gle_s (gle_s (gle_s (gle_n (gle_n gle_0)))))))))) (hk69 _ _ _ _ _ _ _ _ h)
      · refine e_aload_n (pc' := 98) (i := 0) rfl rfl dX7_laysFamily_97 rfl ?_
        refine e_iload (pc' := 100) (i := 8) rfl dX7_laysFamily_98 rfl ?_
        refine e_iload (pc' := 102) (i := 7) rfl dX7_laysFamily_100 rfl ?_
        refine e_bipush (v := 49) (pc' := 104) (by decide) dX7_laysFamily_102 rfl ?_
        refine e_idiv (pc' := 105) (by decide) dX7_laysFamily_104 rfl ?_
        refine e_iconst (v := 3) (pc' := 106) (by decide) dX7_laysFamily_105 rfl ?_
        refine e_isub (pc' := 107) dX7_laysFamily_106 rfl ?_
        refine e_iload (pc' := 109) (i := 7) rfl dX7_laysFamily_107 rfl ?_
        refine e_bipush (v := 7) (pc' := 111) (by decide) dX7_laysFamily_109 rfl ?_
        refine e_idiv (pc' := 112) (by decide) dX7_laysFamily_111 rfl ?_
        refine e_bipush (v := 7) (pc' := 114) (by decide) dX7_laysFamily_112 rfl ?_
        refine e_irem (pc' := 115) (by decide) dX7_laysFamily_114 rfl ?_
        refine e_iconst (v := 3) (pc' := 116) (by decide) dX7_laysFamily_115 rfl ?_
        refine e_isub (pc' := 117) dX7_laysFamily_116 rfl ?_
        refine e_iload (pc' := 119) (i := 7) rfl dX7_laysFamily_117 rfl ?_
        refine e_bipush (v := 7) (pc' := 121) (by decide) dX7_laysFamily_119 rfl ?_
        refine e_irem (pc' := 122) (by decide) dX7_laysFamily_121 rfl ?_
        refine e_iconst (v := 3) (pc' := 123) (by decide) dX7_laysFamily_122 rfl ?_
        refine e_isub (pc' := 124) dX7_laysFamily_123 rfl ?_
        obtain ⟨I2, A3, L4, hF1, h⟩ := g_b1_e h
        refine e_callV_v (pc' := 127) dX7_laysFamily_124 rfl mw_878 mv_X7_turns rfl (Nat.le_of_ble_eq_true rfl) (Nat.le_of_ble_eq_true rfl) rfl (Nat.le_of_ble_eq_true rfl) (Nat.le_of_ble_eq_true rfl) rfl (c_X7_turns _ _ _ _ hF1) rfl ?_
        refine e_bipush (v := 49) (pc' := 129) (by decide) dX7_laysFamily_127 rfl ?_
        refine e_aload_n (pc' := 130) (i := 0) rfl rfl dX7_laysFamily_129 rfl ?_
        refine e_getR (a := 59) (b := 69) (k0 := 15) (pc' := 133) dX7_laysFamily_130 rfl rfl (Nat.le_of_ble_eq_true rfl) (Nat.le_of_ble_eq_true rfl) rfl mw_809 rfl ?_
        refine e_iconst (v := 0) (pc' := 134) (by decide) dX7_laysFamily_133 rfl ?_
        refine e_iald (n := 3) (pc' := 135) dX7_laysFamily_134 rfl rfl (Nat.le_of_ble_eq_true rfl) h (fun h => ?_)
        refine e_iconst (v := 3) (pc' := 136) (by decide) dX7_laysFamily_135 rfl ?_
        refine e_iadd (pc' := 137) dX7_laysFamily_136 rfl ?_
        refine e_imul (pc' := 138) dX7_laysFamily_137 rfl ?_
        refine e_bipush (v := 7) (pc' := 140) (by decide) dX7_laysFamily_138 rfl ?_
        refine e_aload_n (pc' := 141) (i := 0) rfl rfl dX7_laysFamily_140 rfl ?_
        refine e_getR (a := 59) (b := 69) (k0 := 15) (pc' := 144) dX7_laysFamily_141 rfl rfl (Nat.le_of_ble_eq_true rfl) (Nat.le_of_ble_eq_true rfl) rfl mw_809 rfl ?_
        refine e_iconst (v := 1) (pc' := 145) (by decide) dX7_laysFamily_144 rfl ?_
        refine e_iald (n := 3) (pc' := 146) dX7_laysFamily_145 rfl rfl (Nat.le_of_ble_eq_true rfl) h (fun h => ?_)
        refine e_iconst (v := 3) (pc' := 147) (by decide) dX7_laysFamily_146 rfl ?_
        refine e_iadd (pc' := 148) dX7_laysFamily_147 rfl ?_
        refine e_imul (pc' := 149) dX7_laysFamily_148 rfl ?_
        refine e_iadd (pc' := 150) dX7_laysFamily_149 rfl ?_
        refine e_aload_n (pc' := 151) (i := 0) rfl rfl dX7_laysFamily_150 rfl ?_
        refine e_getR (a := 59) (b := 69) (k0 := 15) (pc' := 154) dX7_laysFamily_151 rfl rfl (Nat.le_of_ble_eq_true rfl) (Nat.le_of_ble_eq_true rfl) rfl mw_809 rfl ?_
        refine e_iconst (v := 2) (pc' := 155) (by decide) dX7_laysFamily_154 rfl ?_
        refine e_iald (n := 3) (pc' := 156) dX7_laysFamily_155 rfl rfl (Nat.le_of_ble_eq_true rfl) h (fun h => ?_)
        refine e_iadd (pc' := 157) dX7_laysFamily_156 rfl ?_
        refine e_iconst (v := 3) (pc' := 158) (by decide) dX7_laysFamily_157 rfl ?_
        refine e_iadd (pc' := 159) dX7_laysFamily_158 rfl ?_
        refine e_lt h (fun v5 h => ?_)
        refine e_istore (pc' := 161) (i := 9) (lc' := [some (.ref 59), some (.int x1), none, none, none, some (.int x5), some (.int x6), some (.int x7), some (.int x8), some (.int v5)]) dX7_laysFamily_159 rfl (Nat.le_of_ble_eq_true rfl) rfl rfl ?_
        refine e_iload_n (pc' := 162) (i := 1) rfl rfl dX7_laysFamily_161 rfl ?_
        refine e_iload (pc' := 164) (i := 8) rfl dX7_laysFamily_162 rfl ?_
        refine e_ishr (pc' := 165) dX7_laysFamily_164 rfl ?_
        refine e_iconst (v := 1) (pc' := 166) (by decide) dX7_laysFamily_165 rfl ?_
        refine e_iand (pc' := 167) dX7_laysFamily_166 rfl ?_
        refine e_iconst (v := 1) (pc' := 168) (by decide) dX7_laysFamily_167 rfl ?_
        refine e_icmp_ne (tgt := 195) (pc' := 171) dX7_laysFamily_168 (by decide) rfl h (fun h => ?_) (fun h => ?_)
        · refine e_iinc (pc' := 198) (v := (x8 + 1)) (lc' := [some (.ref 59), some (.int x1), none, none, none, some (.int x5), some (.int x6), some (.int x7), some (.int (x8 + 1)), some (.int v5)]) dX7_laysFamily_195 rfl rfl rfl (Nat.le_of_ble_eq_true rfl) rfl rfl ?_
          refine e_goto (tgt := 80) dX7_laysFamily_198 (by decide) ?_
          exact e_weak (lc' := [some (.ref 59), some (.int x1), none, none, none, some (.int x5), some (.int x6), some (.int x7), some (.int (x8 + 1)), none]) (gle_s (gle_s (gle_n (gle_n (gle_n (gle_s (gle_s (gle_s (gle_s (gle_n gle_0)))))))))) (ih _ _ _ _ _ _ _ _ _ h)
        · refine e_aload_n (pc' := 172) (i := 0) rfl rfl dX7_laysFamily_171 rfl ?_
          refine e_getR (a := 59) (b := 67) (k0 := 13) (pc' := 175) dX7_laysFamily_172 rfl rfl (Nat.le_of_ble_eq_true rfl) (Nat.le_of_ble_eq_true rfl) rfl mw_807 rfl ?_
          refine e_iload (pc' := 177) (i := 9) rfl dX7_laysFamily_175 rfl ?_
          refine e_zald (n := 343) (pc' := 178) dX7_laysFamily_177 rfl rfl (Nat.le_of_ble_eq_true rfl) h (fun h => ?_)
          refine e_if_ne (tgt := 195) (pc' := 181) dX7_laysFamily_178 (by decide) rfl h (fun h => ?_) (fun h => ?_)
          · refine e_iinc (pc' := 198) (v := (x8 + 1)) (lc' := [some (.ref 59), some (.int x1), none, none, none, some (.int x5), some (.int x6), some (.int x7), some (.int (x8 + 1)), some (.int v5)]) dX7_laysFamily_195 rfl rfl rfl (Nat.le_of_ble_eq_true rfl) rfl rfl ?_
            refine e_goto (tgt := 80) dX7_laysFamily_198 (by decide) ?_
            exact e_weak (lc' := [some (.ref 59), some (.int x1), none, none, none, some (.int x5), some (.int x6), some (.int x7), some (.int (x8 + 1)), none]) (gle_s (gle_s (gle_n (gle_n (gle_n (gle_s (gle_s (gle_s (gle_s (gle_n gle_0)))))))))) (ih _ _ _ _ _ _ _ _ _ h)
          · refine e_aload_n (pc' := 182) (i := 0) rfl rfl dX7_laysFamily_181 rfl ?_
            refine e_getR (a := 59) (b := 67) (k0 := 13) (pc' := 185) dX7_laysFamily_182 rfl rfl (Nat.le_of_ble_eq_true rfl) (Nat.le_of_ble_eq_true rfl) rfl mw_807 rfl ?_
            refine e_iload (pc' := 187) (i := 9) rfl dX7_laysFamily_185 rfl ?_
            refine e_iconst (v := 1) (pc' := 188) (by decide) dX7_laysFamily_187 rfl ?_
            refine e_zast (n := 343) (pc' := 189) dX7_laysFamily_188 rfl rfl (Nat.le_of_ble_eq_true rfl) h (fun h => ?_)
            refine e_ltA h (fun A6 h => ?_)
            refine e_iinc (pc' := 192) (v := (x5 + 1)) (lc' := [some (.ref 59), some (.int x1), none, none, none, some (.int (x5 + 1)), some (.int x6), some (.int x7), some (.int x8), some (.int v5)]) dX7_laysFamily_189 rfl rfl rfl (Nat.le_of_ble_eq_true rfl) rfl rfl ?_
            refine e_iconst (v := 1) (pc' := 193) (by decide) dX7_laysFamily_192 rfl ?_
            refine e_istore (pc' := 195) (i := 6) (lc' := [some (.ref 59), some (.int x1), none, none, none, some (.int (x5 + 1)), some (.int 1), some (.int x7), some (.int x8), some (.int v5)]) dX7_laysFamily_193 rfl (Nat.le_of_ble_eq_true rfl) rfl rfl ?_
            refine e_iinc (pc' := 198) (v := (x8 + 1)) (lc' := [some (.ref 59), some (.int x1), none, none, none, some (.int (x5 + 1)), some (.int 1), some (.int x7), some (.int (x8 + 1)), some (.int v5)]) dX7_laysFamily_195 rfl rfl rfl (Nat.le_of_ble_eq_true rfl) rfl rfl ?_
            refine e_goto (tgt := 80) dX7_laysFamily_198 (by decide) ?_
            exact e_weak (lc' := [some (.ref 59), some (.int x1), none, none, none, some (.int (x5 + 1)), some (.int 1), some (.int x7), some (.int (x8 + 1)), none]) (gle_s (gle_s (gle_n (gle_n (gle_n (gle_s (gle_s (gle_s (gle_s (gle_n gle_0)))))))))) (ih _ _ _ _ _ _ _ _ _ h)
set_option maxHeartbeats 4000000 in
set_option maxRecDepth 100000 in
theorem w_X7_laysFamily_p69  (k58 : Int32 → Int32 → Int32 → (Nat → Int32) → (Nat → Nat → Int32) → (Nat → Int64) → Option (Int32 × gS)) (hk58 : ∀ (x1 : Int32) (x5 : Int32) (x6 : Int32) (I : Nat → Int32) (A : Nat → Nat → Int32) (L : Nat → Int64) (t : (Int32 × gS)), k58 x1 x5 x6 I A L = some t → Ev 70 RX7 cX7_laysFamily 10 (some .int) 1 58 [some (.ref 59), some (.int x1), none, none, none, some (.int x5), some (.int x6), none, none, none] [] I A L (some (.int t.1), t.2)) : ∀ (n : Nat) (x1 : Int32) (x5 : Int32) (x6 : Int32) (x7 : Int32) (I : Nat → Int32) (A : Nat → Nat → Int32) (L : Nat → Int64) (t : (Int32 × gS)), f_X7_laysFamily_p69 k58 n x1 x5 x6 x7 I A L = some t → Ev 70 RX7 cX7_laysFamily 10 (some .int) 1 69 [some (.ref 59), some (.int x1), none, none, none, some (.int x5), some (.int x6), some (.int x7), none, none] [] I A L (some (.int t.1), t.2) := by
  intro n
  induction n with
  | zero =>
    intro x1 x5 x6 x7 I A L t h
    cases h
  | succ n ih =>
    intro x1 x5 x6 x7 I A L t h
    rw [f_X7_laysFamily_p69] at h
    refine e_iload (pc' := 71) (i := 7) rfl dX7_laysFamily_69 rfl ?_
    refine e_sipush (v := 343) (pc' := 74) (by decide) dX7_laysFamily_71 rfl ?_
    refine e_icmp_ge (tgt := 207) (pc' := 77) dX7_laysFamily_74 (by decide) rfl h (fun h => ?_) (fun h => ?_)
    · refine e_goto (tgt := 58) dX7_laysFamily_207 (by decide) ?_
      exact e_weak (lc' := [some (.ref 59), some (.int x1), none, none, none, some (.int x5), some (.int x6), none, none, none]) (gle_s (gle_s (gle_n (gle_n (gle_n (gle_s (gle_s (gle_n (gle_n (gle_n gle_0)))))))))) (hk58 _ _ _ _ _ _ _ h)
    · refine e_iconst (v := 0) (pc' := 78) (by decide) dX7_laysFamily_77 rfl ?_
      refine e_istore (pc' := 80) (i := 8) (lc' := [some (.ref 59), some (.int x1), none, none, none, some (.int x5), some (.int x6), some (.int x7), some (.int 0), none]) dX7_laysFamily_78 rfl (Nat.le_of_ble_eq_true rfl) rfl rfl ?_
      exact e_weak (lc' := [some (.ref 59), some (.int x1), none, none, none, some (.int x5), some (.int x6), some (.int x7), some (.int 0), none]) (gle_s (gle_s (gle_n (gle_n (gle_n (gle_s (gle_s (gle_s (gle_s (gle_n gle_0)))))))))) (w_X7_laysFamily_p80 _ hk58 _ ih _ _ _ _ _ _ _ _ _ _ h)
set_option maxHeartbeats 4000000 in
set_option maxRecDepth 100000 in
theorem w_X7_laysFamily_p58  : ∀ (n : Nat) (x1 : Int32) (x5 : Int32) (x6 : Int32) (I : Nat → Int32) (A : Nat → Nat → Int32) (L : Nat → Int64) (t : (Int32 × gS)), f_X7_laysFamily_p58 n x1 x5 x6 I A L = some t → Ev 70 RX7 cX7_laysFamily 10 (some .int) 1 58 [some (.ref 59), some (.int x1), none, none, none, some (.int x5), some (.int x6), none, none, none] [] I A L (some (.int t.1), t.2) := by
  intro n
  induction n with
  | zero =>
    intro x1 x5 x6 I A L t h
    cases h
  | succ n ih =>
    intro x1 x5 x6 I A L t h
    rw [f_X7_laysFamily_p58] at h
    refine e_iload (pc' := 60) (i := 6) rfl dX7_laysFamily_58 rfl ?_
    refine e_if_eq (tgt := 210) (pc' := 63) dX7_laysFamily_60 (by decide) rfl h (fun h => ?_) (fun h => ?_)
    · refine e_iload (pc' := 212) (i := 5) rfl dX7_laysFamily_210 rfl ?_
      obtain rfl := g_re1 h
      exact e_iret dX7_laysFamily_212
    · refine e_iconst (v := 0) (pc' := 64) (by decide) dX7_laysFamily_63 rfl ?_
      refine e_istore (pc' := 66) (i := 6) (lc' := [some (.ref 59), some (.int x1), none, none, none, some (.int x5), some (.int 0), none, none, none]) dX7_laysFamily_64 rfl (Nat.le_of_ble_eq_true rfl) rfl rfl ?_
      refine e_iconst (v := 0) (pc' := 67) (by decide) dX7_laysFamily_66 rfl ?_
      refine e_istore (pc' := 69) (i := 7) (lc' := [some (.ref 59), some (.int x1), none, none, none, some (.int x5), some (.int 0), some (.int 0), none, none]) dX7_laysFamily_67 rfl (Nat.le_of_ble_eq_true rfl) rfl rfl ?_
      exact e_weak (lc' := [some (.ref 59), some (.int x1), none, none, none, some (.int x5), some (.int 0), some (.int 0), none, none]) (gle_s (gle_s (gle_n (gle_n (gle_n (gle_s (gle_s (gle_s (gle_n (gle_n gle_0)))))))))) (w_X7_laysFamily_p69 _ ih _ _ _ _ _ _ _ _ _ h)
set_option maxHeartbeats 4000000 in
set_option maxRecDepth 100000 in
theorem w_X7_laysFamily_p3  : ∀ (n : Nat) (x1 : Int32) (x2 : Int32) (x3 : Int32) (x4 : Int32) (x5 : Int32) (I : Nat → Int32) (A : Nat → Nat → Int32) (L : Nat → Int64) (t : (Int32 × gS)), f_X7_laysFamily_p3 n x1 x2 x3 x4 x5 I A L = some t → Ev 70 RX7 cX7_laysFamily 10 (some .int) 1 3 [some (.ref 59), some (.int x1), some (.int x2), some (.int x3), some (.int x4), some (.int x5), none, none, none, none] [] I A L (some (.int t.1), t.2) := by
  intro n
  induction n with
  | zero =>
    intro x1 x2 x3 x4 x5 I A L t h
    cases h
  | succ n ih =>
    intro x1 x2 x3 x4 x5 I A L t h
    rw [f_X7_laysFamily_p3] at h
    refine e_iload (pc' := 5) (i := 5) rfl dX7_laysFamily_3 rfl ?_
    refine e_sipush (v := 343) (pc' := 8) (by decide) dX7_laysFamily_5 rfl ?_
    refine e_icmp_ge (tgt := 52) (pc' := 11) dX7_laysFamily_8 (by decide) rfl h (fun h => ?_) (fun h => ?_)
    · refine e_iconst (v := 1) (pc' := 53) (by decide) dX7_laysFamily_52 rfl ?_
      refine e_istore (pc' := 55) (i := 5) (lc' := [some (.ref 59), some (.int x1), some (.int x2), some (.int x3), some (.int x4), some (.int 1), none, none, none, none]) dX7_laysFamily_53 rfl (Nat.le_of_ble_eq_true rfl) rfl rfl ?_
      refine e_iconst (v := 1) (pc' := 56) (by decide) dX7_laysFamily_55 rfl ?_
      refine e_istore (pc' := 58) (i := 6) (lc' := [some (.ref 59), some (.int x1), some (.int x2), some (.int x3), some (.int x4), some (.int 1), some (.int 1), none, none, none]) dX7_laysFamily_56 rfl (Nat.le_of_ble_eq_true rfl) rfl rfl ?_
      exact e_weak (lc' := [some (.ref 59), some (.int x1), none, none, none, some (.int 1), some (.int 1), none, none, none]) (gle_s (gle_s (gle_n (gle_n (gle_n (gle_s (gle_s (gle_n (gle_n (gle_n gle_0)))))))))) (w_X7_laysFamily_p58  _ _ _ _ _ _ _ _ h)
    · refine e_aload_n (pc' := 12) (i := 0) rfl rfl dX7_laysFamily_11 rfl ?_
      refine e_getR (a := 59) (b := 67) (k0 := 13) (pc' := 15) dX7_laysFamily_12 rfl rfl (Nat.le_of_ble_eq_true rfl) (Nat.le_of_ble_eq_true rfl) rfl mw_807 rfl ?_
      refine e_iload (pc' := 17) (i := 5) rfl dX7_laysFamily_15 rfl ?_
      refine e_iload (pc' := 19) (i := 5) rfl dX7_laysFamily_17 rfl ?_
      refine e_bipush (v := 49) (pc' := 21) (by decide) dX7_laysFamily_19 rfl ?_
      refine e_iload_n (pc' := 22) (i := 2) rfl rfl dX7_laysFamily_21 rfl ?_
      refine e_iconst (v := 3) (pc' := 23) (by decide) dX7_laysFamily_22 rfl ?_
      refine e_iadd (pc' := 24) dX7_laysFamily_23 rfl ?_
      refine e_imul (pc' := 25) dX7_laysFamily_24 rfl ?_
      refine e_bipush (v := 7) (pc' := 27) (by decide) dX7_laysFamily_25 rfl ?_
      refine e_iload_n (pc' := 28) (i := 3) rfl rfl dX7_laysFamily_27 rfl ?_
      refine e_iconst (v := 3) (pc' := 29) (by decide) dX7_laysFamily_28 rfl ?_
      refine e_iadd (pc' := 30) dX7_laysFamily_29 rfl ?_
      refine e_imul (pc' := 31) dX7_laysFamily_30 rfl ?_
      refine e_iadd (pc' := 32) dX7_laysFamily_31 rfl ?_
      refine e_iload (pc' := 34) (i := 4) rfl dX7_laysFamily_32 rfl ?_
      refine e_iadd (pc' := 35) dX7_laysFamily_34 rfl ?_
      refine e_iconst (v := 3) (pc' := 36) (by decide) dX7_laysFamily_35 rfl ?_
      refine e_iadd (pc' := 37) dX7_laysFamily_36 rfl ?_
      refine e_icmp_ne (tgt := 44) (pc' := 40) dX7_laysFamily_37 (by decide) rfl h (fun h => ?_) (fun h => ?_)
      · refine e_iconst (v := 0) (pc' := 45) (by decide) dX7_laysFamily_44 rfl ?_
        refine e_zast (n := 343) (pc' := 46) dX7_laysFamily_45 rfl rfl (Nat.le_of_ble_eq_true rfl) h (fun h => ?_)
        refine e_ltA h (fun A1 h => ?_)
        refine e_iinc (pc' := 49) (v := (x5 + 1)) (lc' := [some (.ref 59), some (.int x1), some (.int x2), some (.int x3), some (.int x4), some (.int (x5 + 1)), none, none, none, none]) dX7_laysFamily_46 rfl rfl rfl (Nat.le_of_ble_eq_true rfl) rfl rfl ?_
        refine e_goto (tgt := 3) dX7_laysFamily_49 (by decide) ?_
        exact e_weak (lc' := [some (.ref 59), some (.int x1), some (.int x2), some (.int x3), some (.int x4), some (.int (x5 + 1)), none, none, none, none]) (gle_s (gle_s (gle_s (gle_s (gle_s (gle_s (gle_n (gle_n (gle_n (gle_n gle_0)))))))))) (ih _ _ _ _ _ _ _ _ _ h)
      · refine e_iconst (v := 1) (pc' := 41) (by decide) dX7_laysFamily_40 rfl ?_
        refine e_goto (tgt := 45) dX7_laysFamily_41 (by decide) ?_
        refine e_zast (n := 343) (pc' := 46) dX7_laysFamily_45 rfl rfl (Nat.le_of_ble_eq_true rfl) h (fun h => ?_)
        refine e_ltA h (fun A2 h => ?_)
        refine e_iinc (pc' := 49) (v := (x5 + 1)) (lc' := [some (.ref 59), some (.int x1), some (.int x2), some (.int x3), some (.int x4), some (.int (x5 + 1)), none, none, none, none]) dX7_laysFamily_46 rfl rfl rfl (Nat.le_of_ble_eq_true rfl) rfl rfl ?_
        refine e_goto (tgt := 3) dX7_laysFamily_49 (by decide) ?_
        exact e_weak (lc' := [some (.ref 59), some (.int x1), some (.int x2), some (.int x3), some (.int x4), some (.int (x5 + 1)), none, none, none, none]) (gle_s (gle_s (gle_s (gle_s (gle_s (gle_s (gle_n (gle_n (gle_n (gle_n gle_0)))))))))) (ih _ _ _ _ _ _ _ _ _ h)
set_option maxHeartbeats 4000000 in
set_option maxRecDepth 100000 in
theorem c_X7_laysFamily (a0 : Int32) (a1 : Int32) (a2 : Int32) (a3 : Int32) {I : Nat → Int32} {A : Nat → Nat → Int32} {L : Nat → Int64} {t : Int32} {I' : Nat → Int32} {A' : Nat → Nat → Int32} {L' : Nat → Int64} (h : f_X7_laysFamily  a0 a1 a2 a3 I A L = some (t, I', A', L')) : GM 70 yX7_laysFamily cX7_laysFamily 10 (some .int) 1 [.ref 59, .int a0, .int a1, .int a2, .int a3] I A L (some (.int t), (I', A', L')) := by
  refine gm_of (n := 5) (lc := [some (.ref 59), some (.int a0), some (.int a1), some (.int a2), some (.int a3), none, none, none, none, none]) (by decide +kernel) rfl (fun _ => Nat.le_of_ble_eq_true rfl) ?_
  change Ev 70 RX7 cX7_laysFamily 10 (some .int) 1 0 [some (.ref 59), some (.int a0), some (.int a1), some (.int a2), some (.int a3), none, none, none, none, none] [] I A L _
  unfold f_X7_laysFamily at h
  refine e_iconst (v := 0) (pc' := 1) (by decide) dX7_laysFamily_0 rfl ?_
  refine e_istore (pc' := 3) (i := 5) (lc' := [some (.ref 59), some (.int a0), some (.int a1), some (.int a2), some (.int a3), some (.int 0), none, none, none, none]) dX7_laysFamily_1 rfl (Nat.le_of_ble_eq_true rfl) rfl rfl ?_
  exact e_weak (lc' := [some (.ref 59), some (.int a0), some (.int a1), some (.int a2), some (.int a3), some (.int 0), none, none, none, none]) (gle_s (gle_s (gle_s (gle_s (gle_s (gle_s (gle_n (gle_n (gle_n (gle_n gle_0)))))))))) (w_X7_laysFamily_p3  _ _ _ _ _ _ _ _ _ _ h)
set_option maxHeartbeats 4000000 in
set_option maxRecDepth 100000 in
theorem w_X7_familyComes_p2  : ∀ (n : Nat) (x1 : Int32) (x2 : Int32) (I : Nat → Int32) (A : Nat → Nat → Int32) (L : Nat → Int64) (t : gS), f_X7_familyComes_p2 n x1 x2 I A L = some t → Ev 70 RX7 cX7_familyComes 3 none 1 2 [some (.ref 59), some (.int x1), some (.int x2)] [] I A L (none, t) := by
  intro n
  induction n with
  | zero =>
    intro x1 x2 I A L t h
    cases h
  | succ n ih =>
    intro x1 x2 I A L t h
    rw [f_X7_familyComes_p2] at h
    refine e_iload_n (pc' := 3) (i := 2) rfl rfl dX7_familyComes_2 rfl ?_
    refine e_sipush (v := 343) (pc' := 6) (by decide) dX7_familyComes_3 rfl ?_
    refine e_icmp_ge (tgt := 50) (pc' := 9) dX7_familyComes_6 (by decide) rfl h (fun h => ?_) (fun h => ?_)
    · obtain rfl := g_re1 h
      exact e_vret dX7_familyComes_50
    · refine e_aload_n (pc' := 10) (i := 0) rfl rfl dX7_familyComes_9 rfl ?_
      refine e_getR (a := 59) (b := 67) (k0 := 13) (pc' := 13) dX7_familyComes_10 rfl rfl (Nat.le_of_ble_eq_true rfl) (Nat.le_of_ble_eq_true rfl) rfl mw_807 rfl ?_
      refine e_iload_n (pc' := 14) (i := 2) rfl rfl dX7_familyComes_13 rfl ?_
      refine e_zald (n := 343) (pc' := 15) dX7_familyComes_14 rfl rfl (Nat.le_of_ble_eq_true rfl) h (fun h => ?_)
      refine e_if_eq (tgt := 44) (pc' := 18) dX7_familyComes_15 (by decide) rfl h (fun h => ?_) (fun h => ?_)
      · refine e_iinc (pc' := 47) (v := (x2 + 1)) (lc' := [some (.ref 59), some (.int x1), some (.int (x2 + 1))]) dX7_familyComes_44 rfl rfl rfl (Nat.le_of_ble_eq_true rfl) rfl rfl ?_
        refine e_goto (tgt := 2) dX7_familyComes_47 (by decide) ?_
        exact e_weak (lc' := [some (.ref 59), some (.int x1), some (.int (x2 + 1))]) (gle_s (gle_s (gle_s gle_0))) (ih _ _ _ _ _ _ h)
      · refine e_aload_n (pc' := 19) (i := 0) rfl rfl dX7_familyComes_18 rfl ?_
        refine e_iload_n (pc' := 20) (i := 2) rfl rfl dX7_familyComes_19 rfl ?_
        refine e_bipush (v := 49) (pc' := 22) (by decide) dX7_familyComes_20 rfl ?_
        refine e_idiv (pc' := 23) (by decide) dX7_familyComes_22 rfl ?_
        refine e_iconst (v := 3) (pc' := 24) (by decide) dX7_familyComes_23 rfl ?_
        refine e_isub (pc' := 25) dX7_familyComes_24 rfl ?_
        refine e_iload_n (pc' := 26) (i := 2) rfl rfl dX7_familyComes_25 rfl ?_
        refine e_bipush (v := 7) (pc' := 28) (by decide) dX7_familyComes_26 rfl ?_
        refine e_idiv (pc' := 29) (by decide) dX7_familyComes_28 rfl ?_
        refine e_bipush (v := 7) (pc' := 31) (by decide) dX7_familyComes_29 rfl ?_
        refine e_irem (pc' := 32) (by decide) dX7_familyComes_31 rfl ?_
        refine e_iconst (v := 3) (pc' := 33) (by decide) dX7_familyComes_32 rfl ?_
        refine e_isub (pc' := 34) dX7_familyComes_33 rfl ?_
        refine e_iload_n (pc' := 35) (i := 2) rfl rfl dX7_familyComes_34 rfl ?_
        refine e_bipush (v := 7) (pc' := 37) (by decide) dX7_familyComes_35 rfl ?_
        refine e_irem (pc' := 38) (by decide) dX7_familyComes_37 rfl ?_
        refine e_iconst (v := 3) (pc' := 39) (by decide) dX7_familyComes_38 rfl ?_
        refine e_isub (pc' := 40) dX7_familyComes_39 rfl ?_
        refine e_iload_n (pc' := 41) (i := 1) rfl rfl dX7_familyComes_40 rfl ?_
        obtain ⟨I2, A3, L4, hF1, h⟩ := g_b1_e h
        refine e_callV_v (pc' := 44) dX7_familyComes_41 rfl mw_866 mv_X7_comes rfl (Nat.le_of_ble_eq_true rfl) (Nat.le_of_ble_eq_true rfl) rfl (Nat.le_of_ble_eq_true rfl) (Nat.le_of_ble_eq_true rfl) rfl (c_X7_comes _ _ _ _ hF1) rfl ?_
        refine e_iinc (pc' := 47) (v := (x2 + 1)) (lc' := [some (.ref 59), some (.int x1), some (.int (x2 + 1))]) dX7_familyComes_44 rfl rfl rfl (Nat.le_of_ble_eq_true rfl) rfl rfl ?_
        refine e_goto (tgt := 2) dX7_familyComes_47 (by decide) ?_
        exact e_weak (lc' := [some (.ref 59), some (.int x1), some (.int (x2 + 1))]) (gle_s (gle_s (gle_s gle_0))) (ih _ _ _ _ _ _ h)
set_option maxHeartbeats 4000000 in
set_option maxRecDepth 100000 in
theorem c_X7_familyComes (a0 : Int32) {I : Nat → Int32} {A : Nat → Nat → Int32} {L : Nat → Int64} {I' : Nat → Int32} {A' : Nat → Nat → Int32} {L' : Nat → Int64} (h : f_X7_familyComes  a0 I A L = some (I', A', L')) : GM 70 yX7_familyComes cX7_familyComes 3 none 1 [.ref 59, .int a0] I A L (none, (I', A', L')) := by
  refine gm_of (n := 1) (lc := [some (.ref 59), some (.int a0), none]) (by decide +kernel) rfl (fun _ => Nat.le_of_ble_eq_true rfl) ?_
  change Ev 70 RX7 cX7_familyComes 3 none 1 0 [some (.ref 59), some (.int a0), none] [] I A L _
  unfold f_X7_familyComes at h
  refine e_iconst (v := 0) (pc' := 1) (by decide) dX7_familyComes_0 rfl ?_
  refine e_istore_n (pc' := 2) (i := 2) (lc' := [some (.ref 59), some (.int a0), some (.int 0)]) rfl dX7_familyComes_1 rfl (Nat.le_of_ble_eq_true rfl) rfl rfl ?_
  exact e_weak (lc' := [some (.ref 59), some (.int a0), some (.int 0)]) (gle_s (gle_s (gle_s gle_0))) (w_X7_familyComes_p2  _ _ _ _ _ _ _ h)
set_option maxHeartbeats 4000000 in
set_option maxRecDepth 100000 in
theorem w_X7_family_p31  : ∀ (I : Nat → Int32) (A : Nat → Nat → Int32) (L : Nat → Int64) (t : (Int32 × gS)), f_X7_family_p31 I A L = some t → Ev 70 RX7 cX7_family 7 (some .int) 2 31 [some (.ref 59), none, none, none, none, none, none] [] I A L (some (.int t.1), t.2) := by
  intro  I A L t h
  unfold f_X7_family_p31 at h
  refine e_aload_n (pc' := 32) (i := 0) rfl rfl dX7_family_31 rfl ?_
  refine e_bipush (v := (-2)) (pc' := 34) (by decide) dX7_family_32 rfl ?_
  obtain ⟨v5, I2, A3, L4, hF1, h⟩ := g_b2_e h
  refine e_callV_i (pc' := 37) dX7_family_34 rfl mw_854 mv_X7_refuses rfl (Nat.le_of_ble_eq_true rfl) (Nat.le_of_ble_eq_true rfl) rfl (Nat.le_of_ble_eq_true rfl) (Nat.le_of_ble_eq_true rfl) rfl (c_X7_refuses _ hF1) rfl ?_
  obtain rfl := g_re1 h
  exact e_iret dX7_family_37
set_option maxHeartbeats 4000000 in
set_option maxRecDepth 100000 in
theorem c_X7_family (a0 : Int32) (a1 : Int32) (a2 : Int32) (a3 : Int32) (a4 : Int32) {I : Nat → Int32} {A : Nat → Nat → Int32} {L : Nat → Int64} {t : Int32} {I' : Nat → Int32} {A' : Nat → Nat → Int32} {L' : Nat → Int64} (h : f_X7_family  a0 a1 a2 a3 a4 I A L = some (t, I', A', L')) : GM 70 yX7_family cX7_family 7 (some .int) 2 [.ref 59, .int a0, .int a1, .int a2, .int a3, .int a4] I A L (some (.int t), (I', A', L')) := by
  refine gm_of (n := 1) (lc := [some (.ref 59), some (.int a0), some (.int a1), some (.int a2), some (.int a3), some (.int a4), none]) (by decide +kernel) rfl (fun _ => Nat.le_of_ble_eq_true rfl) ?_
  change Ev 70 RX7 cX7_family 7 (some .int) 2 0 [some (.ref 59), some (.int a0), some (.int a1), some (.int a2), some (.int a3), some (.int a4), none] [] I A L _
  unfold f_X7_family at h
  refine e_iload_n (pc' := 1) (i := 1) rfl rfl dX7_family_0 rfl ?_
  refine e_iconst (v := 0) (pc' := 2) (by decide) dX7_family_1 rfl ?_
  refine e_bipush (v := 63) (pc' := 4) (by decide) dX7_family_2 rfl ?_
  obtain ⟨v2, hF1, h⟩ := g_bd_e h
  refine e_callS_i (pc' := 7) dX7_family_4 rfl mw_851 ms_X7_in rfl (Nat.le_of_ble_eq_true rfl) (Nat.le_of_ble_eq_true rfl) (c_X7_in _ _ _ hF1) rfl ?_
  refine e_if_eq (tgt := 31) (pc' := 10) dX7_family_7 (by decide) rfl h (fun h => ?_) (fun h => ?_)
  · exact e_weak (lc' := [some (.ref 59), none, none, none, none, none, none]) (gle_s (gle_n (gle_n (gle_n (gle_n (gle_n (gle_n gle_0))))))) (w_X7_family_p31  _ _ _ _ h)
  · refine e_iload_n (pc' := 11) (i := 2) rfl rfl dX7_family_10 rfl ?_
    refine e_iload_n (pc' := 12) (i := 3) rfl rfl dX7_family_11 rfl ?_
    refine e_iload (pc' := 14) (i := 4) rfl dX7_family_12 rfl ?_
    obtain ⟨v4, hF3, h⟩ := g_bd_e h
    refine e_callS_i (pc' := 17) dX7_family_14 rfl mw_848 ms_X7_isSign rfl (Nat.le_of_ble_eq_true rfl) (Nat.le_of_ble_eq_true rfl) (c_X7_isSign _ _ _ hF3) rfl ?_
    refine e_if_eq (tgt := 31) (pc' := 20) dX7_family_17 (by decide) rfl h (fun h => ?_) (fun h => ?_)
    · exact e_weak (lc' := [some (.ref 59), none, none, none, none, none, none]) (gle_s (gle_n (gle_n (gle_n (gle_n (gle_n (gle_n gle_0))))))) (w_X7_family_p31  _ _ _ _ h)
    · refine e_iload (pc' := 22) (i := 5) rfl dX7_family_20 rfl ?_
      refine e_iconst (v := 1) (pc' := 23) (by decide) dX7_family_22 rfl ?_
      refine e_bipush (v := 60) (pc' := 25) (by decide) dX7_family_23 rfl ?_
      obtain ⟨v6, hF5, h⟩ := g_bd_e h
      refine e_callS_i (pc' := 28) dX7_family_25 rfl mw_851 ms_X7_in rfl (Nat.le_of_ble_eq_true rfl) (Nat.le_of_ble_eq_true rfl) (c_X7_in _ _ _ hF5) rfl ?_
      refine e_if_ne (tgt := 38) (pc' := 31) dX7_family_28 (by decide) rfl h (fun h => ?_) (fun h => ?_)
      · refine e_aload_n (pc' := 39) (i := 0) rfl rfl dX7_family_38 rfl ?_
        refine e_iload_n (pc' := 40) (i := 1) rfl rfl dX7_family_39 rfl ?_
        refine e_iload_n (pc' := 41) (i := 2) rfl rfl dX7_family_40 rfl ?_
        refine e_iload_n (pc' := 42) (i := 3) rfl rfl dX7_family_41 rfl ?_
        refine e_iload (pc' := 44) (i := 4) rfl dX7_family_42 rfl ?_
        obtain ⟨v11, I8, A9, L10, hF7, h⟩ := g_b2_e h
        refine e_callV_i (pc' := 47) dX7_family_44 rfl mw_874 mv_X7_laysFamily rfl (Nat.le_of_ble_eq_true rfl) (Nat.le_of_ble_eq_true rfl) rfl (Nat.le_of_ble_eq_true rfl) (Nat.le_of_ble_eq_true rfl) rfl (c_X7_laysFamily _ _ _ _ hF7) rfl ?_
        refine e_istore (pc' := 49) (i := 6) (lc' := [some (.ref 59), some (.int a0), some (.int a1), some (.int a2), some (.int a3), some (.int a4), some (.int v11)]) dX7_family_47 rfl (Nat.le_of_ble_eq_true rfl) rfl rfl ?_
        refine e_aload_n (pc' := 50) (i := 0) rfl rfl dX7_family_49 rfl ?_
        refine e_getR (a := 59) (b := 60) (k0 := 0) (pc' := 53) dX7_family_50 rfl rfl (Nat.le_of_ble_eq_true rfl) (Nat.le_of_ble_eq_true rfl) rfl mw_794 rfl ?_
        refine e_iconst (v := 0) (pc' := 54) (by decide) dX7_family_53 rfl ?_
        refine e_iald (n := 129) (pc' := 55) dX7_family_54 rfl rfl (Nat.le_of_ble_eq_true rfl) h (fun h => ?_)
        refine e_iload (pc' := 57) (i := 6) rfl dX7_family_55 rfl ?_
        refine e_iadd (pc' := 58) dX7_family_57 rfl ?_
        refine e_bipush (v := 32) (pc' := 60) (by decide) dX7_family_58 rfl ?_
        refine e_icmp_le (tgt := 70) (pc' := 63) dX7_family_60 (by decide) rfl h (fun h => ?_) (fun h => ?_)
        · refine e_aload_n (pc' := 71) (i := 0) rfl rfl dX7_family_70 rfl ?_
          obtain ⟨I13, A14, L15, hF12, h⟩ := g_b1_e h
          refine e_callV_v (pc' := 74) dX7_family_71 rfl mw_858 mv_X7_aside rfl (Nat.le_of_ble_eq_true rfl) (Nat.le_of_ble_eq_true rfl) rfl (Nat.le_of_ble_eq_true rfl) (Nat.le_of_ble_eq_true rfl) rfl (c_X7_aside hF12) rfl ?_
          refine e_aload_n (pc' := 75) (i := 0) rfl rfl dX7_family_74 rfl ?_
          obtain ⟨I17, A18, L19, hF16, h⟩ := g_b1_e h
          refine e_callV_v (pc' := 78) dX7_family_75 rfl mw_862 mv_X7_keeps rfl (Nat.le_of_ble_eq_true rfl) (Nat.le_of_ble_eq_true rfl) rfl (Nat.le_of_ble_eq_true rfl) (Nat.le_of_ble_eq_true rfl) rfl (c_X7_keeps hF16) rfl ?_
          refine e_aload_n (pc' := 79) (i := 0) rfl rfl dX7_family_78 rfl ?_
          refine e_iload (pc' := 81) (i := 5) rfl dX7_family_79 rfl ?_
          obtain ⟨I21, A22, L23, hF20, h⟩ := g_b1_e h
          refine e_callV_v (pc' := 84) dX7_family_81 rfl mw_882 mv_X7_familyComes rfl (Nat.le_of_ble_eq_true rfl) (Nat.le_of_ble_eq_true rfl) rfl (Nat.le_of_ble_eq_true rfl) (Nat.le_of_ble_eq_true rfl) rfl (c_X7_familyComes _ hF20) rfl ?_
          refine e_iload (pc' := 86) (i := 6) rfl dX7_family_84 rfl ?_
          obtain ⟨rfl, rfl, rfl, rfl⟩ := g_re4 h
          exact e_iret dX7_family_86
        · refine e_aload_n (pc' := 64) (i := 0) rfl rfl dX7_family_63 rfl ?_
          refine e_bipush (v := (-4)) (pc' := 66) (by decide) dX7_family_64 rfl ?_
          obtain ⟨v28, I25, A26, L27, hF24, h⟩ := g_b2_e h
          refine e_callV_i (pc' := 69) dX7_family_66 rfl mw_854 mv_X7_refuses rfl (Nat.le_of_ble_eq_true rfl) (Nat.le_of_ble_eq_true rfl) rfl (Nat.le_of_ble_eq_true rfl) (Nat.le_of_ble_eq_true rfl) rfl (c_X7_refuses _ hF24) rfl ?_
          obtain ⟨rfl, rfl, rfl, rfl⟩ := g_re4 h
          exact e_iret dX7_family_69
      · exact e_weak (lc' := [some (.ref 59), none, none, none, none, none, none]) (gle_s (gle_n (gle_n (gle_n (gle_n (gle_n (gle_n gle_0))))))) (w_X7_family_p31  _ _ _ _ h)
set_option maxHeartbeats 4000000 in
set_option maxRecDepth 100000 in
theorem c_X7_isPlane (a0 : Int32) {I : Nat → Int32} {A : Nat → Nat → Int32} {L : Nat → Int64} {t : Int32} (h : f_X7_isPlane I A L a0 = some t) : GM 70 yX7_isPlane cX7_isPlane 2 (some .boolean) 1 [.ref 59, .int a0] I A L (some (.int t), (I, A, L)) := by
  refine gm_of (n := 0) (lc := [some (.ref 59), some (.int a0)]) (by decide +kernel) rfl (fun _ => Nat.le_of_ble_eq_true rfl) ?_
  change Ev 70 RX7 cX7_isPlane 2 (some .boolean) 1 0 [some (.ref 59), some (.int a0)] [] I A L _
  unfold f_X7_isPlane at h
  refine e_iload_n (pc' := 1) (i := 1) rfl rfl dX7_isPlane_0 rfl ?_
  refine e_iconst (v := 0) (pc' := 2) (by decide) dX7_isPlane_1 rfl ?_
  refine e_aload_n (pc' := 3) (i := 0) rfl rfl dX7_isPlane_2 rfl ?_
  refine e_getR (a := 59) (b := 60) (k0 := 0) (pc' := 6) dX7_isPlane_3 rfl rfl (Nat.le_of_ble_eq_true rfl) (Nat.le_of_ble_eq_true rfl) rfl mw_794 rfl ?_
  refine e_iconst (v := 0) (pc' := 7) (by decide) dX7_isPlane_6 rfl ?_
  refine e_iald (n := 129) (pc' := 8) dX7_isPlane_7 rfl rfl (Nat.le_of_ble_eq_true rfl) h (fun h => ?_)
  refine e_iconst (v := 1) (pc' := 9) (by decide) dX7_isPlane_8 rfl ?_
  refine e_isub (pc' := 10) dX7_isPlane_9 rfl ?_
  obtain ⟨v2, hF1, h⟩ := g_bd_e h
  refine e_callS_i (pc' := 13) dX7_isPlane_10 rfl mw_851 ms_X7_in rfl (Nat.le_of_ble_eq_true rfl) (Nat.le_of_ble_eq_true rfl) (c_X7_in _ _ _ hF1) rfl ?_
  obtain ⟨hz3, h⟩ := g_z_e h
  obtain rfl := g_re1 h
  exact e_zret dX7_isPlane_13 hz3
set_option maxHeartbeats 4000000 in
set_option maxRecDepth 100000 in
theorem c_X7_get (a0 : Int32) (a1 : Int32) {I : Nat → Int32} {A : Nat → Nat → Int32} {L : Nat → Int64} {t : Int32} (h : f_X7_get I A L a0 a1 = some t) : GM 70 yX7_get cX7_get 3 (some .int) 0 [.ref 59, .int a0, .int a1] I A L (some (.int t), (I, A, L)) := by
  refine gm_of (n := 0) (lc := [some (.ref 59), some (.int a0), some (.int a1)]) (by decide +kernel) rfl (fun _ => Nat.le_of_ble_eq_true rfl) ?_
  change Ev 70 RX7 cX7_get 3 (some .int) 0 0 [some (.ref 59), some (.int a0), some (.int a1)] [] I A L _
  unfold f_X7_get at h
  refine e_aload_n (pc' := 1) (i := 0) rfl rfl dX7_get_0 rfl ?_
  refine e_getR (a := 59) (b := 60) (k0 := 0) (pc' := 4) dX7_get_1 rfl rfl (Nat.le_of_ble_eq_true rfl) (Nat.le_of_ble_eq_true rfl) rfl mw_794 rfl ?_
  refine e_iconst (v := 1) (pc' := 5) (by decide) dX7_get_4 rfl ?_
  refine e_iconst (v := 4) (pc' := 6) (by decide) dX7_get_5 rfl ?_
  refine e_iload_n (pc' := 7) (i := 1) rfl rfl dX7_get_6 rfl ?_
  refine e_imul (pc' := 8) dX7_get_7 rfl ?_
  refine e_iadd (pc' := 9) dX7_get_8 rfl ?_
  refine e_iload_n (pc' := 10) (i := 2) rfl rfl dX7_get_9 rfl ?_
  refine e_iadd (pc' := 11) dX7_get_10 rfl ?_
  refine e_iald (n := 129) (pc' := 12) dX7_get_11 rfl rfl (Nat.le_of_ble_eq_true rfl) h (fun h => ?_)
  obtain rfl := g_re1 h
  exact e_iret dX7_get_12
set_option maxHeartbeats 4000000 in
set_option maxRecDepth 100000 in
theorem w_X7_off_p18  : ∀ (I : Nat → Int32) (A : Nat → Nat → Int32) (L : Nat → Int64) (t : (Int32 × gS)), f_X7_off_p18 I A L = some t → Ev 70 RX7 cX7_off 4 (some .int) 2 18 [some (.ref 59), none, none, none] [] I A L (some (.int t.1), t.2) := by
  intro  I A L t h
  unfold f_X7_off_p18 at h
  refine e_aload_n (pc' := 19) (i := 0) rfl rfl dX7_off_18 rfl ?_
  refine e_bipush (v := (-2)) (pc' := 21) (by decide) dX7_off_19 rfl ?_
  obtain ⟨v5, I2, A3, L4, hF1, h⟩ := g_b2_e h
  refine e_callV_i (pc' := 24) dX7_off_21 rfl mw_854 mv_X7_refuses rfl (Nat.le_of_ble_eq_true rfl) (Nat.le_of_ble_eq_true rfl) rfl (Nat.le_of_ble_eq_true rfl) (Nat.le_of_ble_eq_true rfl) rfl (c_X7_refuses _ hF1) rfl ?_
  obtain rfl := g_re1 h
  exact e_iret dX7_off_24
set_option maxHeartbeats 4000000 in
set_option maxRecDepth 100000 in
theorem c_X7_off (a0 : Int32) (a1 : Int32) {I : Nat → Int32} {A : Nat → Nat → Int32} {L : Nat → Int64} {t : Int32} {I' : Nat → Int32} {A' : Nat → Nat → Int32} {L' : Nat → Int64} (h : f_X7_off  a0 a1 I A L = some (t, I', A', L')) : GM 70 yX7_off cX7_off 4 (some .int) 2 [.ref 59, .int a0, .int a1] I A L (some (.int t), (I', A', L')) := by
  refine gm_of (n := 1) (lc := [some (.ref 59), some (.int a0), some (.int a1), none]) (by decide +kernel) rfl (fun _ => Nat.le_of_ble_eq_true rfl) ?_
  change Ev 70 RX7 cX7_off 4 (some .int) 2 0 [some (.ref 59), some (.int a0), some (.int a1), none] [] I A L _
  unfold f_X7_off at h
  refine e_aload_n (pc' := 1) (i := 0) rfl rfl dX7_off_0 rfl ?_
  refine e_iload_n (pc' := 2) (i := 1) rfl rfl dX7_off_1 rfl ?_
  obtain ⟨v2, hF1, h⟩ := g_bd_e h
  refine e_callV_i (pc' := 5) dX7_off_2 rfl mw_890 mv_X7_isPlane rfl (Nat.le_of_ble_eq_true rfl) (Nat.le_of_ble_eq_true rfl) rfl (Nat.le_of_ble_eq_true rfl) (Nat.le_of_ble_eq_true rfl) rfl (c_X7_isPlane _ hF1) rfl ?_
  refine e_if_eq (tgt := 18) (pc' := 8) dX7_off_5 (by decide) rfl h (fun h => ?_) (fun h => ?_)
  · exact e_weak (lc' := [some (.ref 59), none, none, none]) (gle_s (gle_n (gle_n (gle_n gle_0)))) (w_X7_off_p18  _ _ _ _ h)
  · refine e_iload_n (pc' := 9) (i := 2) rfl rfl dX7_off_8 rfl ?_
    refine e_iconst (v := 1) (pc' := 10) (by decide) dX7_off_9 rfl ?_
    refine e_bipush (v := 60) (pc' := 12) (by decide) dX7_off_10 rfl ?_
    obtain ⟨v4, hF3, h⟩ := g_bd_e h
    refine e_callS_i (pc' := 15) dX7_off_12 rfl mw_851 ms_X7_in rfl (Nat.le_of_ble_eq_true rfl) (Nat.le_of_ble_eq_true rfl) (c_X7_in _ _ _ hF3) rfl ?_
    refine e_if_ne (tgt := 25) (pc' := 18) dX7_off_15 (by decide) rfl h (fun h => ?_) (fun h => ?_)
    · refine e_aload_n (pc' := 26) (i := 0) rfl rfl dX7_off_25 rfl ?_
      obtain ⟨I6, A7, L8, hF5, h⟩ := g_b1_e h
      refine e_callV_v (pc' := 29) dX7_off_26 rfl mw_858 mv_X7_aside rfl (Nat.le_of_ble_eq_true rfl) (Nat.le_of_ble_eq_true rfl) rfl (Nat.le_of_ble_eq_true rfl) (Nat.le_of_ble_eq_true rfl) rfl (c_X7_aside hF5) rfl ?_
      refine e_aload_n (pc' := 30) (i := 0) rfl rfl dX7_off_29 rfl ?_
      obtain ⟨I10, A11, L12, hF9, h⟩ := g_b1_e h
      refine e_callV_v (pc' := 33) dX7_off_30 rfl mw_862 mv_X7_keeps rfl (Nat.le_of_ble_eq_true rfl) (Nat.le_of_ble_eq_true rfl) rfl (Nat.le_of_ble_eq_true rfl) (Nat.le_of_ble_eq_true rfl) rfl (c_X7_keeps hF9) rfl ?_
      refine e_aload_n (pc' := 34) (i := 0) rfl rfl dX7_off_33 rfl ?_
      refine e_iload_n (pc' := 35) (i := 1) rfl rfl dX7_off_34 rfl ?_
      refine e_iconst (v := 3) (pc' := 36) (by decide) dX7_off_35 rfl ?_
      obtain ⟨v14, hF13, h⟩ := g_bd_e h
      refine e_callV_i (pc' := 39) dX7_off_36 rfl mw_894 mv_X7_get rfl (Nat.le_of_ble_eq_true rfl) (Nat.le_of_ble_eq_true rfl) rfl (Nat.le_of_ble_eq_true rfl) (Nat.le_of_ble_eq_true rfl) rfl (c_X7_get _ _ hF13) rfl ?_
      refine e_istore_n (pc' := 40) (i := 3) (lc' := [some (.ref 59), some (.int a0), some (.int a1), some (.int v14)]) rfl dX7_off_39 rfl (Nat.le_of_ble_eq_true rfl) rfl rfl ?_
      refine e_aload_n (pc' := 41) (i := 0) rfl rfl dX7_off_40 rfl ?_
      refine e_getR (a := 59) (b := 60) (k0 := 0) (pc' := 44) dX7_off_41 rfl rfl (Nat.le_of_ble_eq_true rfl) (Nat.le_of_ble_eq_true rfl) rfl mw_794 rfl ?_
      refine e_iconst (v := 4) (pc' := 45) (by decide) dX7_off_44 rfl ?_
      refine e_iconst (v := 4) (pc' := 46) (by decide) dX7_off_45 rfl ?_
      refine e_iload_n (pc' := 47) (i := 1) rfl rfl dX7_off_46 rfl ?_
      refine e_imul (pc' := 48) dX7_off_47 rfl ?_
      refine e_iadd (pc' := 49) dX7_off_48 rfl ?_
      refine e_iload_n (pc' := 50) (i := 2) rfl rfl dX7_off_49 rfl ?_
      refine e_iast (n := 129) (pc' := 51) dX7_off_50 rfl rfl (Nat.le_of_ble_eq_true rfl) h (fun h => ?_)
      refine e_ltA h (fun A15 h => ?_)
      refine e_iload_n (pc' := 52) (i := 3) rfl rfl dX7_off_51 rfl ?_
      obtain ⟨rfl, rfl, rfl, rfl⟩ := g_re4 h
      exact e_iret dX7_off_52
    · exact e_weak (lc' := [some (.ref 59), none, none, none]) (gle_s (gle_n (gle_n (gle_n gle_0)))) (w_X7_off_p18  _ _ _ _ h)
set_option maxHeartbeats 4000000 in
set_option maxRecDepth 100000 in
theorem w_X7_goes_p6  : ∀ (n : Nat) (x2 : Int32) (I : Nat → Int32) (A : Nat → Nat → Int32) (L : Nat → Int64) (t : gS), f_X7_goes_p6 n x2 I A L = some t → Ev 70 RX7 cX7_goes 3 none 0 6 [some (.ref 59), none, some (.int x2)] [] I A L (none, t) := by
  intro n
  induction n with
  | zero =>
    intro x2 I A L t h
    cases h
  | succ n ih =>
    intro x2 I A L t h
    rw [f_X7_goes_p6] at h
    refine e_iload_n (pc' := 7) (i := 2) rfl rfl dX7_goes_6 rfl ?_
    refine e_iconst (v := 4) (pc' := 8) (by decide) dX7_goes_7 rfl ?_
    refine e_aload_n (pc' := 9) (i := 0) rfl rfl dX7_goes_8 rfl ?_
    refine e_getR (a := 59) (b := 60) (k0 := 0) (pc' := 12) dX7_goes_9 rfl rfl (Nat.le_of_ble_eq_true rfl) (Nat.le_of_ble_eq_true rfl) rfl mw_794 rfl ?_
    refine e_iconst (v := 0) (pc' := 13) (by decide) dX7_goes_12 rfl ?_
    refine e_iald (n := 129) (pc' := 14) dX7_goes_13 rfl rfl (Nat.le_of_ble_eq_true rfl) h (fun h => ?_)
    refine e_imul (pc' := 15) dX7_goes_14 rfl ?_
    refine e_iconst (v := 3) (pc' := 16) (by decide) dX7_goes_15 rfl ?_
    refine e_isub (pc' := 17) dX7_goes_16 rfl ?_
    refine e_icmp_ge (tgt := 40) (pc' := 20) dX7_goes_17 (by decide) rfl h (fun h => ?_) (fun h => ?_)
    · refine e_aload_n (pc' := 41) (i := 0) rfl rfl dX7_goes_40 rfl ?_
      refine e_getR (a := 59) (b := 60) (k0 := 0) (pc' := 44) dX7_goes_41 rfl rfl (Nat.le_of_ble_eq_true rfl) (Nat.le_of_ble_eq_true rfl) rfl mw_794 rfl ?_
      refine e_iconst (v := 0) (pc' := 45) (by decide) dX7_goes_44 rfl ?_
      refine e_dup2 (pc' := 46) rfl rfl dX7_goes_45 rfl ?_
      refine e_iald (n := 129) (pc' := 47) dX7_goes_46 rfl rfl (Nat.le_of_ble_eq_true rfl) h (fun h => ?_)
      refine e_iconst (v := 1) (pc' := 48) (by decide) dX7_goes_47 rfl ?_
      refine e_isub (pc' := 49) dX7_goes_48 rfl ?_
      refine e_iast (n := 129) (pc' := 50) dX7_goes_49 rfl rfl (Nat.le_of_ble_eq_true rfl) h (fun h => ?_)
      refine e_ltA h (fun A1 h => ?_)
      obtain rfl := g_re1 h
      exact e_vret dX7_goes_50
    · refine e_aload_n (pc' := 21) (i := 0) rfl rfl dX7_goes_20 rfl ?_
      refine e_getR (a := 59) (b := 60) (k0 := 0) (pc' := 24) dX7_goes_21 rfl rfl (Nat.le_of_ble_eq_true rfl) (Nat.le_of_ble_eq_true rfl) rfl mw_794 rfl ?_
      refine e_iload_n (pc' := 25) (i := 2) rfl rfl dX7_goes_24 rfl ?_
      refine e_aload_n (pc' := 26) (i := 0) rfl rfl dX7_goes_25 rfl ?_
      refine e_getR (a := 59) (b := 60) (k0 := 0) (pc' := 29) dX7_goes_26 rfl rfl (Nat.le_of_ble_eq_true rfl) (Nat.le_of_ble_eq_true rfl) rfl mw_794 rfl ?_
      refine e_iload_n (pc' := 30) (i := 2) rfl rfl dX7_goes_29 rfl ?_
      refine e_iconst (v := 4) (pc' := 31) (by decide) dX7_goes_30 rfl ?_
      refine e_iadd (pc' := 32) dX7_goes_31 rfl ?_
      refine e_iald (n := 129) (pc' := 33) dX7_goes_32 rfl rfl (Nat.le_of_ble_eq_true rfl) h (fun h => ?_)
      refine e_iast (n := 129) (pc' := 34) dX7_goes_33 rfl rfl (Nat.le_of_ble_eq_true rfl) h (fun h => ?_)
      refine e_ltA h (fun A2 h => ?_)
      refine e_iinc (pc' := 37) (v := (x2 + 1)) (lc' := [some (.ref 59), none, some (.int (x2 + 1))]) dX7_goes_34 rfl rfl rfl (Nat.le_of_ble_eq_true rfl) rfl rfl ?_
      refine e_goto (tgt := 6) dX7_goes_37 (by decide) ?_
      exact e_weak (lc' := [some (.ref 59), none, some (.int (x2 + 1))]) (gle_s (gle_n (gle_s gle_0))) (ih _ _ _ _ _ h)
set_option maxHeartbeats 4000000 in
set_option maxRecDepth 100000 in
theorem c_X7_goes (a0 : Int32) {I : Nat → Int32} {A : Nat → Nat → Int32} {L : Nat → Int64} {I' : Nat → Int32} {A' : Nat → Nat → Int32} {L' : Nat → Int64} (h : f_X7_goes  a0 I A L = some (I', A', L')) : GM 70 yX7_goes cX7_goes 3 none 0 [.ref 59, .int a0] I A L (none, (I', A', L')) := by
  refine gm_of (n := 1) (lc := [some (.ref 59), some (.int a0), none]) (by decide +kernel) rfl (fun _ => Nat.le_of_ble_eq_true rfl) ?_
  change Ev 70 RX7 cX7_goes 3 none 0 0 [some (.ref 59), some (.int a0), none] [] I A L _
  unfold f_X7_goes at h
  refine e_iconst (v := 1) (pc' := 1) (by decide) dX7_goes_0 rfl ?_
  refine e_iconst (v := 4) (pc' := 2) (by decide) dX7_goes_1 rfl ?_
  refine e_iload_n (pc' := 3) (i := 1) rfl rfl dX7_goes_2 rfl ?_
  refine e_imul (pc' := 4) dX7_goes_3 rfl ?_
  refine e_iadd (pc' := 5) dX7_goes_4 rfl ?_
  refine e_istore_n (pc' := 6) (i := 2) (lc' := [some (.ref 59), some (.int a0), some (.int (1 + (4 * a0)))]) rfl dX7_goes_5 rfl (Nat.le_of_ble_eq_true rfl) rfl rfl ?_
  exact e_weak (lc' := [some (.ref 59), none, some (.int (1 + (4 * a0)))]) (gle_s (gle_n (gle_s gle_0))) (w_X7_goes_p6  _ _ _ _ _ _ h)
set_option maxHeartbeats 4000000 in
set_option maxRecDepth 100000 in
theorem w_X7_drop_p14  : ∀ (I : Nat → Int32) (A : Nat → Nat → Int32) (L : Nat → Int64) (t : (Int32 × gS)), f_X7_drop_p14 I A L = some t → Ev 70 RX7 cX7_drop 2 (some .int) 2 14 [some (.ref 59), none] [] I A L (some (.int t.1), t.2) := by
  intro  I A L t h
  unfold f_X7_drop_p14 at h
  refine e_aload_n (pc' := 15) (i := 0) rfl rfl dX7_drop_14 rfl ?_
  refine e_bipush (v := (-2)) (pc' := 17) (by decide) dX7_drop_15 rfl ?_
  obtain ⟨v5, I2, A3, L4, hF1, h⟩ := g_b2_e h
  refine e_callV_i (pc' := 20) dX7_drop_17 rfl mw_854 mv_X7_refuses rfl (Nat.le_of_ble_eq_true rfl) (Nat.le_of_ble_eq_true rfl) rfl (Nat.le_of_ble_eq_true rfl) (Nat.le_of_ble_eq_true rfl) rfl (c_X7_refuses _ hF1) rfl ?_
  obtain rfl := g_re1 h
  exact e_iret dX7_drop_20
set_option maxHeartbeats 4000000 in
set_option maxRecDepth 100000 in
theorem c_X7_drop (a0 : Int32) {I : Nat → Int32} {A : Nat → Nat → Int32} {L : Nat → Int64} {t : Int32} {I' : Nat → Int32} {A' : Nat → Nat → Int32} {L' : Nat → Int64} (h : f_X7_drop  a0 I A L = some (t, I', A', L')) : GM 70 yX7_drop cX7_drop 2 (some .int) 2 [.ref 59, .int a0] I A L (some (.int t), (I', A', L')) := by
  refine gm_of (n := 0) (lc := [some (.ref 59), some (.int a0)]) (by decide +kernel) rfl (fun _ => Nat.le_of_ble_eq_true rfl) ?_
  change Ev 70 RX7 cX7_drop 2 (some .int) 2 0 [some (.ref 59), some (.int a0)] [] I A L _
  unfold f_X7_drop at h
  refine e_aload_n (pc' := 1) (i := 0) rfl rfl dX7_drop_0 rfl ?_
  refine e_iload_n (pc' := 2) (i := 1) rfl rfl dX7_drop_1 rfl ?_
  obtain ⟨v2, hF1, h⟩ := g_bd_e h
  refine e_callV_i (pc' := 5) dX7_drop_2 rfl mw_890 mv_X7_isPlane rfl (Nat.le_of_ble_eq_true rfl) (Nat.le_of_ble_eq_true rfl) rfl (Nat.le_of_ble_eq_true rfl) (Nat.le_of_ble_eq_true rfl) rfl (c_X7_isPlane _ hF1) rfl ?_
  refine e_if_eq (tgt := 14) (pc' := 8) dX7_drop_5 (by decide) rfl h (fun h => ?_) (fun h => ?_)
  · exact e_weak (lc' := [some (.ref 59), none]) (gle_s (gle_n gle_0)) (w_X7_drop_p14  _ _ _ _ h)
  · refine e_iload_n (pc' := 9) (i := 1) rfl rfl dX7_drop_8 rfl ?_
    refine e_bipush (v := 6) (pc' := 11) (by decide) dX7_drop_9 rfl ?_
    refine e_icmp_ge (tgt := 21) (pc' := 14) dX7_drop_11 (by decide) rfl h (fun h => ?_) (fun h => ?_)
    · refine e_aload_n (pc' := 22) (i := 0) rfl rfl dX7_drop_21 rfl ?_
      obtain ⟨I4, A5, L6, hF3, h⟩ := g_b1_e h
      refine e_callV_v (pc' := 25) dX7_drop_22 rfl mw_858 mv_X7_aside rfl (Nat.le_of_ble_eq_true rfl) (Nat.le_of_ble_eq_true rfl) rfl (Nat.le_of_ble_eq_true rfl) (Nat.le_of_ble_eq_true rfl) rfl (c_X7_aside hF3) rfl ?_
      refine e_aload_n (pc' := 26) (i := 0) rfl rfl dX7_drop_25 rfl ?_
      obtain ⟨I8, A9, L10, hF7, h⟩ := g_b1_e h
      refine e_callV_v (pc' := 29) dX7_drop_26 rfl mw_862 mv_X7_keeps rfl (Nat.le_of_ble_eq_true rfl) (Nat.le_of_ble_eq_true rfl) rfl (Nat.le_of_ble_eq_true rfl) (Nat.le_of_ble_eq_true rfl) rfl (c_X7_keeps hF7) rfl ?_
      refine e_aload_n (pc' := 30) (i := 0) rfl rfl dX7_drop_29 rfl ?_
      refine e_iload_n (pc' := 31) (i := 1) rfl rfl dX7_drop_30 rfl ?_
      obtain ⟨I12, A13, L14, hF11, h⟩ := g_b1_e h
      refine e_callV_v (pc' := 34) dX7_drop_31 rfl mw_902 mv_X7_goes rfl (Nat.le_of_ble_eq_true rfl) (Nat.le_of_ble_eq_true rfl) rfl (Nat.le_of_ble_eq_true rfl) (Nat.le_of_ble_eq_true rfl) rfl (c_X7_goes _ hF11) rfl ?_
      refine e_aload_n (pc' := 35) (i := 0) rfl rfl dX7_drop_34 rfl ?_
      refine e_getR (a := 59) (b := 60) (k0 := 0) (pc' := 38) dX7_drop_35 rfl rfl (Nat.le_of_ble_eq_true rfl) (Nat.le_of_ble_eq_true rfl) rfl mw_794 rfl ?_
      refine e_iconst (v := 0) (pc' := 39) (by decide) dX7_drop_38 rfl ?_
      refine e_iald (n := 129) (pc' := 40) dX7_drop_39 rfl rfl (Nat.le_of_ble_eq_true rfl) h (fun h => ?_)
      obtain ⟨rfl, rfl, rfl, rfl⟩ := g_re4 h
      exact e_iret dX7_drop_40
    · exact e_weak (lc' := [some (.ref 59), none]) (gle_s (gle_n gle_0)) (w_X7_drop_p14  _ _ _ _ h)
