set_option maxHeartbeats 4000000 in
set_option maxRecDepth 100000 in
theorem w_X7_anew_p25  : ∀ (n : Nat) (x1 : Int32) (x2 : Int32) (I : Nat → Int32) (A : Nat → Nat → Int32) (L : Nat → Int64) (t : (Int32 × gS)), f_X7_anew_p25 n x1 x2 I A L = some t → Ev 70 RX7 cX7_anew 3 (some .int) 1 25 [some (.ref 59), some (.int x1), some (.int x2)] [] I A L (some (.int t.1), t.2) := by
  intro n
  induction n with
  | zero =>
    intro x1 x2 I A L t h
    cases h
  | succ n ih =>
    intro x1 x2 I A L t h
    rw [f_X7_anew_p25] at h
    refine e_iload_n (pc' := 26) (i := 2) rfl rfl dX7_anew_25 rfl ?_
    refine e_bipush (v := 6) (pc' := 28) (by decide) dX7_anew_26 rfl ?_
    refine e_icmp_ge (tgt := 49) (pc' := 31) dX7_anew_28 (by decide) rfl h (fun h => ?_) (fun h => ?_)
    · refine e_iload_n (pc' := 50) (i := 1) rfl rfl dX7_anew_49 rfl ?_
      obtain rfl := g_re1 h
      exact e_iret dX7_anew_50
    · refine e_aload_n (pc' := 32) (i := 0) rfl rfl dX7_anew_31 rfl ?_
      refine e_getR (a := 59) (b := 60) (k0 := 0) (pc' := 35) dX7_anew_32 rfl rfl (Nat.le_of_ble_eq_true rfl) (Nat.le_of_ble_eq_true rfl) rfl mw_794 rfl ?_
      refine e_iconst (v := 4) (pc' := 36) (by decide) dX7_anew_35 rfl ?_
      refine e_iconst (v := 4) (pc' := 37) (by decide) dX7_anew_36 rfl ?_
      refine e_iload_n (pc' := 38) (i := 2) rfl rfl dX7_anew_37 rfl ?_
      refine e_imul (pc' := 39) dX7_anew_38 rfl ?_
      refine e_iadd (pc' := 40) dX7_anew_39 rfl ?_
      refine e_bipush (v := 20) (pc' := 42) (by decide) dX7_anew_40 rfl ?_
      refine e_iast (n := 129) (pc' := 43) dX7_anew_42 rfl rfl (Nat.le_of_ble_eq_true rfl) h (fun h => ?_)
      refine e_ltA h (fun A1 h => ?_)
      refine e_iinc (pc' := 46) (v := (x2 + 1)) (lc' := [some (.ref 59), some (.int x1), some (.int (x2 + 1))]) dX7_anew_43 rfl rfl rfl (Nat.le_of_ble_eq_true rfl) rfl rfl ?_
      refine e_goto (tgt := 25) dX7_anew_46 (by decide) ?_
      exact e_weak (lc' := [some (.ref 59), some (.int x1), some (.int (x2 + 1))]) (gle_s (gle_s (gle_s gle_0))) (ih _ _ _ _ _ _ h)
set_option maxHeartbeats 4000000 in
set_option maxRecDepth 100000 in
theorem c_X7_anew  {I : Nat → Int32} {A : Nat → Nat → Int32} {L : Nat → Int64} {t : Int32} {I' : Nat → Int32} {A' : Nat → Nat → Int32} {L' : Nat → Int64} (h : f_X7_anew   I A L = some (t, I', A', L')) : GM 70 yX7_anew cX7_anew 3 (some .int) 1 [.ref 59] I A L (some (.int t), (I', A', L')) := by
  refine gm_of (n := 2) (lc := [some (.ref 59), none, none]) (by decide +kernel) rfl (fun _ => Nat.le_of_ble_eq_true rfl) ?_
  change Ev 70 RX7 cX7_anew 3 (some .int) 1 0 [some (.ref 59), none, none] [] I A L _
  unfold f_X7_anew at h
  refine e_aload_n (pc' := 1) (i := 0) rfl rfl dX7_anew_0 rfl ?_
  obtain ⟨I2, A3, L4, hF1, h⟩ := g_b1_e h
  refine e_callV_v (pc' := 4) dX7_anew_1 rfl mw_858 mv_X7_aside rfl (Nat.le_of_ble_eq_true rfl) (Nat.le_of_ble_eq_true rfl) rfl (Nat.le_of_ble_eq_true rfl) (Nat.le_of_ble_eq_true rfl) rfl (c_X7_aside hF1) rfl ?_
  refine e_aload_n (pc' := 5) (i := 0) rfl rfl dX7_anew_4 rfl ?_
  obtain ⟨I6, A7, L8, hF5, h⟩ := g_b1_e h
  refine e_callV_v (pc' := 8) dX7_anew_5 rfl mw_862 mv_X7_keeps rfl (Nat.le_of_ble_eq_true rfl) (Nat.le_of_ble_eq_true rfl) rfl (Nat.le_of_ble_eq_true rfl) (Nat.le_of_ble_eq_true rfl) rfl (c_X7_keeps hF5) rfl ?_
  refine e_aload_n (pc' := 9) (i := 0) rfl rfl dX7_anew_8 rfl ?_
  refine e_getR (a := 59) (b := 60) (k0 := 0) (pc' := 12) dX7_anew_9 rfl rfl (Nat.le_of_ble_eq_true rfl) (Nat.le_of_ble_eq_true rfl) rfl mw_794 rfl ?_
  refine e_iconst (v := 0) (pc' := 13) (by decide) dX7_anew_12 rfl ?_
  refine e_iald (n := 129) (pc' := 14) dX7_anew_13 rfl rfl (Nat.le_of_ble_eq_true rfl) h (fun h => ?_)
  refine e_lt h (fun v9 h => ?_)
  refine e_istore_n (pc' := 15) (i := 1) (lc' := [some (.ref 59), some (.int v9), none]) rfl dX7_anew_14 rfl (Nat.le_of_ble_eq_true rfl) rfl rfl ?_
  refine e_aload_n (pc' := 16) (i := 0) rfl rfl dX7_anew_15 rfl ?_
  refine e_getR (a := 59) (b := 60) (k0 := 0) (pc' := 19) dX7_anew_16 rfl rfl (Nat.le_of_ble_eq_true rfl) (Nat.le_of_ble_eq_true rfl) rfl mw_794 rfl ?_
  refine e_iconst (v := 0) (pc' := 20) (by decide) dX7_anew_19 rfl ?_
  refine e_bipush (v := 6) (pc' := 22) (by decide) dX7_anew_20 rfl ?_
  refine e_iast (n := 129) (pc' := 23) dX7_anew_22 rfl rfl (Nat.le_of_ble_eq_true rfl) h (fun h => ?_)
  refine e_ltA h (fun A10 h => ?_)
  refine e_iconst (v := 0) (pc' := 24) (by decide) dX7_anew_23 rfl ?_
  refine e_istore_n (pc' := 25) (i := 2) (lc' := [some (.ref 59), some (.int v9), some (.int 0)]) rfl dX7_anew_24 rfl (Nat.le_of_ble_eq_true rfl) rfl rfl ?_
  exact e_weak (lc' := [some (.ref 59), some (.int v9), some (.int 0)]) (gle_s (gle_s (gle_s gle_0))) (w_X7_anew_p25  _ _ _ _ _ _ _ h)
set_option maxHeartbeats 4000000 in
set_option maxRecDepth 100000 in
theorem w_X7_isSame_p5 (I : Nat → Int32) (A : Nat → Nat → Int32) (L : Nat → Int64) : ∀ (n : Nat) (x1 : Int32) (x2 : Int32) (x3 : Int32) (x4 : Int32) (t : Int32), f_X7_isSame_p5 I A L n x1 x2 x3 x4 = some t → Ev 70 RX7 cX7_isSame 5 (some .boolean) 1 5 [some (.ref 59), some (.int x1), some (.int x2), some (.int x3), some (.int x4)] [] I A L (some (.int t), (I, A, L)) := by
  intro n
  induction n with
  | zero =>
    intro x1 x2 x3 x4 t h
    cases h
  | succ n ih =>
    intro x1 x2 x3 x4 t h
    rw [f_X7_isSame_p5] at h
    refine e_iload (pc' := 7) (i := 4) rfl dX7_isSame_5 rfl ?_
    refine e_iconst (v := 3) (pc' := 8) (by decide) dX7_isSame_7 rfl ?_
    refine e_icmp_ge (tgt := 58) (pc' := 11) dX7_isSame_8 (by decide) rfl h (fun h => ?_) (fun h => ?_)
    · refine e_iload_n (pc' := 59) (i := 3) rfl rfl dX7_isSame_58 rfl ?_
      obtain ⟨hz1, h⟩ := g_z_e h
      obtain rfl := g_re1 h
      exact e_zret dX7_isSame_59 hz1
    · refine e_iload_n (pc' := 12) (i := 3) rfl rfl dX7_isSame_11 rfl ?_
      refine e_if_eq (tgt := 50) (pc' := 15) dX7_isSame_12 (by decide) rfl h (fun h => ?_) (fun h => ?_)
      · refine e_iconst (v := 0) (pc' := 51) (by decide) dX7_isSame_50 rfl ?_
        refine e_istore_n (pc' := 52) (i := 3) (lc' := [some (.ref 59), some (.int x1), some (.int x2), some (.int 0), some (.int x4)]) rfl dX7_isSame_51 rfl (Nat.le_of_ble_eq_true rfl) rfl rfl ?_
        refine e_iinc (pc' := 55) (v := (x4 + 1)) (lc' := [some (.ref 59), some (.int x1), some (.int x2), some (.int 0), some (.int (x4 + 1))]) dX7_isSame_52 rfl rfl rfl (Nat.le_of_ble_eq_true rfl) rfl rfl ?_
        refine e_goto (tgt := 5) dX7_isSame_55 (by decide) ?_
        exact e_weak (lc' := [some (.ref 59), some (.int x1), some (.int x2), some (.int 0), some (.int (x4 + 1))]) (gle_s (gle_s (gle_s (gle_s (gle_s gle_0))))) (ih _ _ _ _ _ h)
      · refine e_aload_n (pc' := 16) (i := 0) rfl rfl dX7_isSame_15 rfl ?_
        refine e_iload_n (pc' := 17) (i := 1) rfl rfl dX7_isSame_16 rfl ?_
        refine e_iload (pc' := 19) (i := 4) rfl dX7_isSame_17 rfl ?_
        obtain ⟨v3, hF2, h⟩ := g_bd_e h
        refine e_callV_i (pc' := 22) dX7_isSame_19 rfl mw_894 mv_X7_get rfl (Nat.le_of_ble_eq_true rfl) (Nat.le_of_ble_eq_true rfl) rfl (Nat.le_of_ble_eq_true rfl) (Nat.le_of_ble_eq_true rfl) rfl (c_X7_get _ _ hF2) rfl ?_
        refine e_aload_n (pc' := 23) (i := 0) rfl rfl dX7_isSame_22 rfl ?_
        refine e_iload_n (pc' := 24) (i := 2) rfl rfl dX7_isSame_23 rfl ?_
        refine e_iconst (v := 3) (pc' := 25) (by decide) dX7_isSame_24 rfl ?_
        obtain ⟨v5, hF4, h⟩ := g_bd_e h
        refine e_callV_i (pc' := 28) dX7_isSame_25 rfl mw_894 mv_X7_get rfl (Nat.le_of_ble_eq_true rfl) (Nat.le_of_ble_eq_true rfl) rfl (Nat.le_of_ble_eq_true rfl) (Nat.le_of_ble_eq_true rfl) rfl (c_X7_get _ _ hF4) rfl ?_
        refine e_imul (pc' := 29) dX7_isSame_28 rfl ?_
        refine e_aload_n (pc' := 30) (i := 0) rfl rfl dX7_isSame_29 rfl ?_
        refine e_iload_n (pc' := 31) (i := 2) rfl rfl dX7_isSame_30 rfl ?_
        refine e_iload (pc' := 33) (i := 4) rfl dX7_isSame_31 rfl ?_
        obtain ⟨v7, hF6, h⟩ := g_bd_e h
        refine e_callV_i (pc' := 36) dX7_isSame_33 rfl mw_894 mv_X7_get rfl (Nat.le_of_ble_eq_true rfl) (Nat.le_of_ble_eq_true rfl) rfl (Nat.le_of_ble_eq_true rfl) (Nat.le_of_ble_eq_true rfl) rfl (c_X7_get _ _ hF6) rfl ?_
        refine e_aload_n (pc' := 37) (i := 0) rfl rfl dX7_isSame_36 rfl ?_
        refine e_iload_n (pc' := 38) (i := 1) rfl rfl dX7_isSame_37 rfl ?_
        refine e_iconst (v := 3) (pc' := 39) (by decide) dX7_isSame_38 rfl ?_
        obtain ⟨v9, hF8, h⟩ := g_bd_e h
        refine e_callV_i (pc' := 42) dX7_isSame_39 rfl mw_894 mv_X7_get rfl (Nat.le_of_ble_eq_true rfl) (Nat.le_of_ble_eq_true rfl) rfl (Nat.le_of_ble_eq_true rfl) (Nat.le_of_ble_eq_true rfl) rfl (c_X7_get _ _ hF8) rfl ?_
        refine e_imul (pc' := 43) dX7_isSame_42 rfl ?_
        refine e_icmp_ne (tgt := 50) (pc' := 46) dX7_isSame_43 (by decide) rfl h (fun h => ?_) (fun h => ?_)
        · refine e_iconst (v := 0) (pc' := 51) (by decide) dX7_isSame_50 rfl ?_
          refine e_istore_n (pc' := 52) (i := 3) (lc' := [some (.ref 59), some (.int x1), some (.int x2), some (.int 0), some (.int x4)]) rfl dX7_isSame_51 rfl (Nat.le_of_ble_eq_true rfl) rfl rfl ?_
          refine e_iinc (pc' := 55) (v := (x4 + 1)) (lc' := [some (.ref 59), some (.int x1), some (.int x2), some (.int 0), some (.int (x4 + 1))]) dX7_isSame_52 rfl rfl rfl (Nat.le_of_ble_eq_true rfl) rfl rfl ?_
          refine e_goto (tgt := 5) dX7_isSame_55 (by decide) ?_
          exact e_weak (lc' := [some (.ref 59), some (.int x1), some (.int x2), some (.int 0), some (.int (x4 + 1))]) (gle_s (gle_s (gle_s (gle_s (gle_s gle_0))))) (ih _ _ _ _ _ h)
        · refine e_iconst (v := 1) (pc' := 47) (by decide) dX7_isSame_46 rfl ?_
          refine e_goto (tgt := 51) dX7_isSame_47 (by decide) ?_
          refine e_istore_n (pc' := 52) (i := 3) (lc' := [some (.ref 59), some (.int x1), some (.int x2), some (.int 1), some (.int x4)]) rfl dX7_isSame_51 rfl (Nat.le_of_ble_eq_true rfl) rfl rfl ?_
          refine e_iinc (pc' := 55) (v := (x4 + 1)) (lc' := [some (.ref 59), some (.int x1), some (.int x2), some (.int 1), some (.int (x4 + 1))]) dX7_isSame_52 rfl rfl rfl (Nat.le_of_ble_eq_true rfl) rfl rfl ?_
          refine e_goto (tgt := 5) dX7_isSame_55 (by decide) ?_
          exact e_weak (lc' := [some (.ref 59), some (.int x1), some (.int x2), some (.int 1), some (.int (x4 + 1))]) (gle_s (gle_s (gle_s (gle_s (gle_s gle_0))))) (ih _ _ _ _ _ h)
set_option maxHeartbeats 4000000 in
set_option maxRecDepth 100000 in
theorem c_X7_isSame (a0 : Int32) (a1 : Int32) {I : Nat → Int32} {A : Nat → Nat → Int32} {L : Nat → Int64} {t : Int32} (h : f_X7_isSame I A L a0 a1 = some t) : GM 70 yX7_isSame cX7_isSame 5 (some .boolean) 1 [.ref 59, .int a0, .int a1] I A L (some (.int t), (I, A, L)) := by
  refine gm_of (n := 2) (lc := [some (.ref 59), some (.int a0), some (.int a1), none, none]) (by decide +kernel) rfl (fun _ => Nat.le_of_ble_eq_true rfl) ?_
  change Ev 70 RX7 cX7_isSame 5 (some .boolean) 1 0 [some (.ref 59), some (.int a0), some (.int a1), none, none] [] I A L _
  unfold f_X7_isSame at h
  refine e_iconst (v := 1) (pc' := 1) (by decide) dX7_isSame_0 rfl ?_
  refine e_istore_n (pc' := 2) (i := 3) (lc' := [some (.ref 59), some (.int a0), some (.int a1), some (.int 1), none]) rfl dX7_isSame_1 rfl (Nat.le_of_ble_eq_true rfl) rfl rfl ?_
  refine e_iconst (v := 0) (pc' := 3) (by decide) dX7_isSame_2 rfl ?_
  refine e_istore (pc' := 5) (i := 4) (lc' := [some (.ref 59), some (.int a0), some (.int a1), some (.int 1), some (.int 0)]) dX7_isSame_3 rfl (Nat.le_of_ble_eq_true rfl) rfl rfl ?_
  exact e_weak (lc' := [some (.ref 59), some (.int a0), some (.int a1), some (.int 1), some (.int 0)]) (gle_s (gle_s (gle_s (gle_s (gle_s gle_0))))) (w_X7_isSame_p5 I A L  _ _ _ _ _ _ h)
set_option maxHeartbeats 4000000 in
set_option maxRecDepth 100000 in
theorem c_X7_isOn (a0 : Int32) (a1 : Int32) {I : Nat → Int32} {A : Nat → Nat → Int32} {L : Nat → Int64} {t : Int32} (h : f_X7_isOn I A L a0 a1 = some t) : GM 70 yX7_isOn cX7_isOn 3 (some .boolean) 0 [.ref 59, .int a0, .int a1] I A L (some (.int t), (I, A, L)) := by
  refine gm_of (n := 0) (lc := [some (.ref 59), some (.int a0), some (.int a1)]) (by decide +kernel) rfl (fun _ => Nat.le_of_ble_eq_true rfl) ?_
  change Ev 70 RX7 cX7_isOn 3 (some .boolean) 0 0 [some (.ref 59), some (.int a0), some (.int a1)] [] I A L _
  unfold f_X7_isOn at h
  refine e_aload_n (pc' := 1) (i := 0) rfl rfl dX7_isOn_0 rfl ?_
  refine e_getR (a := 59) (b := 65) (k0 := 10) (pc' := 4) dX7_isOn_1 rfl rfl (Nat.le_of_ble_eq_true rfl) (Nat.le_of_ble_eq_true rfl) rfl mw_804 rfl ?_
  refine e_iconst (v := 5) (pc' := 5) (by decide) dX7_isOn_4 rfl ?_
  refine e_iload_n (pc' := 6) (i := 1) rfl rfl dX7_isOn_5 rfl ?_
  refine e_imul (pc' := 7) dX7_isOn_6 rfl ?_
  refine e_iconst (v := 4) (pc' := 8) (by decide) dX7_isOn_7 rfl ?_
  refine e_iadd (pc' := 9) dX7_isOn_8 rfl ?_
  refine e_iald (n := 320) (pc' := 10) dX7_isOn_9 rfl rfl (Nat.le_of_ble_eq_true rfl) h (fun h => ?_)
  refine e_iload_n (pc' := 11) (i := 2) rfl rfl dX7_isOn_10 rfl ?_
  refine e_ishr (pc' := 12) dX7_isOn_11 rfl ?_
  refine e_iconst (v := 1) (pc' := 13) (by decide) dX7_isOn_12 rfl ?_
  refine e_iand (pc' := 14) dX7_isOn_13 rfl ?_
  refine e_iconst (v := 1) (pc' := 15) (by decide) dX7_isOn_14 rfl ?_
  refine e_icmp_ne (tgt := 22) (pc' := 18) dX7_isOn_15 (by decide) rfl h (fun h => ?_) (fun h => ?_)
  · refine e_iconst (v := 0) (pc' := 23) (by decide) dX7_isOn_22 rfl ?_
    obtain rfl := g_re1 h
    exact e_zret dX7_isOn_23 (by decide)
  · refine e_iconst (v := 1) (pc' := 19) (by decide) dX7_isOn_18 rfl ?_
    refine e_goto (tgt := 23) dX7_isOn_19 (by decide) ?_
    obtain rfl := g_re1 h
    exact e_zret dX7_isOn_23 (by decide)
set_option maxHeartbeats 4000000 in
set_option maxRecDepth 100000 in
theorem w_X7_cornersOn_p4 (I : Nat → Int32) (A : Nat → Nat → Int32) (L : Nat → Int64) : ∀ (n : Nat) (x1 : Int32) (x2 : Int32) (x3 : Int32) (t : Int32), f_X7_cornersOn_p4 I A L n x1 x2 x3 = some t → Ev 70 RX7 cX7_cornersOn 4 (some .int) 1 4 [some (.ref 59), some (.int x1), some (.int x2), some (.int x3)] [] I A L (some (.int t), (I, A, L)) := by
  intro n
  induction n with
  | zero =>
    intro x1 x2 x3 t h
    cases h
  | succ n ih =>
    intro x1 x2 x3 t h
    rw [f_X7_cornersOn_p4] at h
    refine e_iload_n (pc' := 5) (i := 3) rfl rfl dX7_cornersOn_4 rfl ?_
    refine e_aload_n (pc' := 6) (i := 0) rfl rfl dX7_cornersOn_5 rfl ?_
    refine e_getI (a := 59) (n := 955) (k0 := 11) (pc' := 9) dX7_cornersOn_6 rfl rfl (Nat.le_of_ble_eq_true rfl) (Nat.le_of_ble_eq_true rfl) rfl mw_805 rfl ?_
    refine e_icmp_ge (tgt := 35) (pc' := 12) dX7_cornersOn_9 (by decide) rfl h (fun h => ?_) (fun h => ?_)
    · refine e_iload_n (pc' := 36) (i := 2) rfl rfl dX7_cornersOn_35 rfl ?_
      obtain rfl := g_re1 h
      exact e_iret dX7_cornersOn_36
    · refine e_iload_n (pc' := 13) (i := 2) rfl rfl dX7_cornersOn_12 rfl ?_
      refine e_aload_n (pc' := 14) (i := 0) rfl rfl dX7_cornersOn_13 rfl ?_
      refine e_iload_n (pc' := 15) (i := 3) rfl rfl dX7_cornersOn_14 rfl ?_
      refine e_iload_n (pc' := 16) (i := 1) rfl rfl dX7_cornersOn_15 rfl ?_
      obtain ⟨v2, hF1, h⟩ := g_bd_e h
      refine e_callV_i (pc' := 19) dX7_cornersOn_16 rfl mw_955 mv_X7_isOn rfl (Nat.le_of_ble_eq_true rfl) (Nat.le_of_ble_eq_true rfl) rfl (Nat.le_of_ble_eq_true rfl) (Nat.le_of_ble_eq_true rfl) rfl (c_X7_isOn _ _ hF1) rfl ?_
      refine e_if_eq (tgt := 26) (pc' := 22) dX7_cornersOn_19 (by decide) rfl h (fun h => ?_) (fun h => ?_)
      · refine e_iconst (v := 0) (pc' := 27) (by decide) dX7_cornersOn_26 rfl ?_
        refine e_iadd (pc' := 28) dX7_cornersOn_27 rfl ?_
        refine e_istore_n (pc' := 29) (i := 2) (lc' := [some (.ref 59), some (.int x1), some (.int (x2 + 0)), some (.int x3)]) rfl dX7_cornersOn_28 rfl (Nat.le_of_ble_eq_true rfl) rfl rfl ?_
        refine e_iinc (pc' := 32) (v := (x3 + 1)) (lc' := [some (.ref 59), some (.int x1), some (.int (x2 + 0)), some (.int (x3 + 1))]) dX7_cornersOn_29 rfl rfl rfl (Nat.le_of_ble_eq_true rfl) rfl rfl ?_
        refine e_goto (tgt := 4) dX7_cornersOn_32 (by decide) ?_
        exact e_weak (lc' := [some (.ref 59), some (.int x1), some (.int (x2 + 0)), some (.int (x3 + 1))]) (gle_s (gle_s (gle_s (gle_s gle_0)))) (ih _ _ _ _ h)
      · refine e_iconst (v := 1) (pc' := 23) (by decide) dX7_cornersOn_22 rfl ?_
        refine e_goto (tgt := 27) dX7_cornersOn_23 (by decide) ?_
        refine e_iadd (pc' := 28) dX7_cornersOn_27 rfl ?_
        refine e_istore_n (pc' := 29) (i := 2) (lc' := [some (.ref 59), some (.int x1), some (.int (x2 + 1)), some (.int x3)]) rfl dX7_cornersOn_28 rfl (Nat.le_of_ble_eq_true rfl) rfl rfl ?_
        refine e_iinc (pc' := 32) (v := (x3 + 1)) (lc' := [some (.ref 59), some (.int x1), some (.int (x2 + 1)), some (.int (x3 + 1))]) dX7_cornersOn_29 rfl rfl rfl (Nat.le_of_ble_eq_true rfl) rfl rfl ?_
        refine e_goto (tgt := 4) dX7_cornersOn_32 (by decide) ?_
        exact e_weak (lc' := [some (.ref 59), some (.int x1), some (.int (x2 + 1)), some (.int (x3 + 1))]) (gle_s (gle_s (gle_s (gle_s gle_0)))) (ih _ _ _ _ h)
set_option maxHeartbeats 4000000 in
set_option maxRecDepth 100000 in
theorem c_X7_cornersOn (a0 : Int32) {I : Nat → Int32} {A : Nat → Nat → Int32} {L : Nat → Int64} {t : Int32} (h : f_X7_cornersOn I A L a0 = some t) : GM 70 yX7_cornersOn cX7_cornersOn 4 (some .int) 1 [.ref 59, .int a0] I A L (some (.int t), (I, A, L)) := by
  refine gm_of (n := 2) (lc := [some (.ref 59), some (.int a0), none, none]) (by decide +kernel) rfl (fun _ => Nat.le_of_ble_eq_true rfl) ?_
  change Ev 70 RX7 cX7_cornersOn 4 (some .int) 1 0 [some (.ref 59), some (.int a0), none, none] [] I A L _
  unfold f_X7_cornersOn at h
  refine e_iconst (v := 0) (pc' := 1) (by decide) dX7_cornersOn_0 rfl ?_
  refine e_istore_n (pc' := 2) (i := 2) (lc' := [some (.ref 59), some (.int a0), some (.int 0), none]) rfl dX7_cornersOn_1 rfl (Nat.le_of_ble_eq_true rfl) rfl rfl ?_
  refine e_iconst (v := 0) (pc' := 3) (by decide) dX7_cornersOn_2 rfl ?_
  refine e_istore_n (pc' := 4) (i := 3) (lc' := [some (.ref 59), some (.int a0), some (.int 0), some (.int 0)]) rfl dX7_cornersOn_3 rfl (Nat.le_of_ble_eq_true rfl) rfl rfl ?_
  exact e_weak (lc' := [some (.ref 59), some (.int a0), some (.int 0), some (.int 0)]) (gle_s (gle_s (gle_s (gle_s gle_0)))) (w_X7_cornersOn_p4 I A L  _ _ _ _ _ h)
set_option maxHeartbeats 4000000 in
set_option maxRecDepth 100000 in
theorem w_X7_determinant_p63 (I : Nat → Int32) (A : Nat → Nat → Int32) (L : Nat → Int64) : ∀ (x6 : Int32) (x7 : Int32) (x8 : Int32) (x9 : Int32) (x10 : Int32) (s0 : Int32) (t : Int32), f_X7_determinant_p63 I A L x6 x7 x8 x9 x10 s0 = some t → Ev 70 RX7 cX7_determinant 12 (some .int) 0 63 [none, none, none, none, none, some (.ref 60), some (.int x6), some (.int x7), some (.int x8), some (.int x9), some (.int x10), none] [.int s0] I A L (some (.int t), (I, A, L)) := by
  intro x6 x7 x8 x9 x10 s0  t h
  unfold f_X7_determinant_p63 at h
  refine e_istore (pc' := 65) (i := 11) (lc' := [none, none, none, none, none, some (.ref 60), some (.int x6), some (.int x7), some (.int x8), some (.int x9), some (.int x10), some (.int s0)]) dX7_determinant_63 rfl (Nat.le_of_ble_eq_true rfl) rfl rfl ?_
  refine e_aload (pc' := 67) (i := 5) rfl dX7_determinant_65 rfl ?_
  refine e_iload (pc' := 69) (i := 6) rfl dX7_determinant_67 rfl ?_
  refine e_iload (pc' := 71) (i := 9) rfl dX7_determinant_69 rfl ?_
  refine e_iadd (pc' := 72) dX7_determinant_71 rfl ?_
  refine e_iald (n := 129) (pc' := 73) dX7_determinant_72 rfl rfl (Nat.le_of_ble_eq_true rfl) h (fun h => ?_)
  refine e_aload (pc' := 75) (i := 5) rfl dX7_determinant_73 rfl ?_
  refine e_iload (pc' := 77) (i := 7) rfl dX7_determinant_75 rfl ?_
  refine e_iload (pc' := 79) (i := 10) rfl dX7_determinant_77 rfl ?_
  refine e_iadd (pc' := 80) dX7_determinant_79 rfl ?_
  refine e_iald (n := 129) (pc' := 81) dX7_determinant_80 rfl rfl (Nat.le_of_ble_eq_true rfl) h (fun h => ?_)
  refine e_aload (pc' := 83) (i := 5) rfl dX7_determinant_81 rfl ?_
  refine e_iload (pc' := 85) (i := 8) rfl dX7_determinant_83 rfl ?_
  refine e_iload (pc' := 87) (i := 11) rfl dX7_determinant_85 rfl ?_
  refine e_iadd (pc' := 88) dX7_determinant_87 rfl ?_
  refine e_iald (n := 129) (pc' := 89) dX7_determinant_88 rfl rfl (Nat.le_of_ble_eq_true rfl) h (fun h => ?_)
  refine e_imul (pc' := 90) dX7_determinant_89 rfl ?_
  refine e_aload (pc' := 92) (i := 5) rfl dX7_determinant_90 rfl ?_
  refine e_iload (pc' := 94) (i := 7) rfl dX7_determinant_92 rfl ?_
  refine e_iload (pc' := 96) (i := 11) rfl dX7_determinant_94 rfl ?_
  refine e_iadd (pc' := 97) dX7_determinant_96 rfl ?_
  refine e_iald (n := 129) (pc' := 98) dX7_determinant_97 rfl rfl (Nat.le_of_ble_eq_true rfl) h (fun h => ?_)
  refine e_aload (pc' := 100) (i := 5) rfl dX7_determinant_98 rfl ?_
  refine e_iload (pc' := 102) (i := 8) rfl dX7_determinant_100 rfl ?_
  refine e_iload (pc' := 104) (i := 10) rfl dX7_determinant_102 rfl ?_
  refine e_iadd (pc' := 105) dX7_determinant_104 rfl ?_
  refine e_iald (n := 129) (pc' := 106) dX7_determinant_105 rfl rfl (Nat.le_of_ble_eq_true rfl) h (fun h => ?_)
  refine e_imul (pc' := 107) dX7_determinant_106 rfl ?_
  refine e_isub (pc' := 108) dX7_determinant_107 rfl ?_
  refine e_imul (pc' := 109) dX7_determinant_108 rfl ?_
  refine e_aload (pc' := 111) (i := 5) rfl dX7_determinant_109 rfl ?_
  refine e_iload (pc' := 113) (i := 6) rfl dX7_determinant_111 rfl ?_
  refine e_iload (pc' := 115) (i := 10) rfl dX7_determinant_113 rfl ?_
  refine e_iadd (pc' := 116) dX7_determinant_115 rfl ?_
  refine e_iald (n := 129) (pc' := 117) dX7_determinant_116 rfl rfl (Nat.le_of_ble_eq_true rfl) h (fun h => ?_)
  refine e_aload (pc' := 119) (i := 5) rfl dX7_determinant_117 rfl ?_
  refine e_iload (pc' := 121) (i := 7) rfl dX7_determinant_119 rfl ?_
  refine e_iload (pc' := 123) (i := 9) rfl dX7_determinant_121 rfl ?_
  refine e_iadd (pc' := 124) dX7_determinant_123 rfl ?_
  refine e_iald (n := 129) (pc' := 125) dX7_determinant_124 rfl rfl (Nat.le_of_ble_eq_true rfl) h (fun h => ?_)
  refine e_aload (pc' := 127) (i := 5) rfl dX7_determinant_125 rfl ?_
  refine e_iload (pc' := 129) (i := 8) rfl dX7_determinant_127 rfl ?_
  refine e_iload (pc' := 131) (i := 11) rfl dX7_determinant_129 rfl ?_
  refine e_iadd (pc' := 132) dX7_determinant_131 rfl ?_
  refine e_iald (n := 129) (pc' := 133) dX7_determinant_132 rfl rfl (Nat.le_of_ble_eq_true rfl) h (fun h => ?_)
  refine e_imul (pc' := 134) dX7_determinant_133 rfl ?_
  refine e_aload (pc' := 136) (i := 5) rfl dX7_determinant_134 rfl ?_
  refine e_iload (pc' := 138) (i := 7) rfl dX7_determinant_136 rfl ?_
  refine e_iload (pc' := 140) (i := 11) rfl dX7_determinant_138 rfl ?_
  refine e_iadd (pc' := 141) dX7_determinant_140 rfl ?_
  refine e_iald (n := 129) (pc' := 142) dX7_determinant_141 rfl rfl (Nat.le_of_ble_eq_true rfl) h (fun h => ?_)
  refine e_aload (pc' := 144) (i := 5) rfl dX7_determinant_142 rfl ?_
  refine e_iload (pc' := 146) (i := 8) rfl dX7_determinant_144 rfl ?_
  refine e_iload (pc' := 148) (i := 9) rfl dX7_determinant_146 rfl ?_
  refine e_iadd (pc' := 149) dX7_determinant_148 rfl ?_
  refine e_iald (n := 129) (pc' := 150) dX7_determinant_149 rfl rfl (Nat.le_of_ble_eq_true rfl) h (fun h => ?_)
  refine e_imul (pc' := 151) dX7_determinant_150 rfl ?_
  refine e_isub (pc' := 152) dX7_determinant_151 rfl ?_
  refine e_imul (pc' := 153) dX7_determinant_152 rfl ?_
  refine e_isub (pc' := 154) dX7_determinant_153 rfl ?_
  refine e_aload (pc' := 156) (i := 5) rfl dX7_determinant_154 rfl ?_
  refine e_iload (pc' := 158) (i := 6) rfl dX7_determinant_156 rfl ?_
  refine e_iload (pc' := 160) (i := 11) rfl dX7_determinant_158 rfl ?_
  refine e_iadd (pc' := 161) dX7_determinant_160 rfl ?_
  refine e_iald (n := 129) (pc' := 162) dX7_determinant_161 rfl rfl (Nat.le_of_ble_eq_true rfl) h (fun h => ?_)
  refine e_aload (pc' := 164) (i := 5) rfl dX7_determinant_162 rfl ?_
  refine e_iload (pc' := 166) (i := 7) rfl dX7_determinant_164 rfl ?_
  refine e_iload (pc' := 168) (i := 9) rfl dX7_determinant_166 rfl ?_
  refine e_iadd (pc' := 169) dX7_determinant_168 rfl ?_
  refine e_iald (n := 129) (pc' := 170) dX7_determinant_169 rfl rfl (Nat.le_of_ble_eq_true rfl) h (fun h => ?_)
  refine e_aload (pc' := 172) (i := 5) rfl dX7_determinant_170 rfl ?_
  refine e_iload (pc' := 174) (i := 8) rfl dX7_determinant_172 rfl ?_
  refine e_iload (pc' := 176) (i := 10) rfl dX7_determinant_174 rfl ?_
  refine e_iadd (pc' := 177) dX7_determinant_176 rfl ?_
  refine e_iald (n := 129) (pc' := 178) dX7_determinant_177 rfl rfl (Nat.le_of_ble_eq_true rfl) h (fun h => ?_)
  refine e_imul (pc' := 179) dX7_determinant_178 rfl ?_
  refine e_aload (pc' := 181) (i := 5) rfl dX7_determinant_179 rfl ?_
  refine e_iload (pc' := 183) (i := 7) rfl dX7_determinant_181 rfl ?_
  refine e_iload (pc' := 185) (i := 10) rfl dX7_determinant_183 rfl ?_
  refine e_iadd (pc' := 186) dX7_determinant_185 rfl ?_
  refine e_iald (n := 129) (pc' := 187) dX7_determinant_186 rfl rfl (Nat.le_of_ble_eq_true rfl) h (fun h => ?_)
  refine e_aload (pc' := 189) (i := 5) rfl dX7_determinant_187 rfl ?_
  refine e_iload (pc' := 191) (i := 8) rfl dX7_determinant_189 rfl ?_
  refine e_iload (pc' := 193) (i := 9) rfl dX7_determinant_191 rfl ?_
  refine e_iadd (pc' := 194) dX7_determinant_193 rfl ?_
  refine e_iald (n := 129) (pc' := 195) dX7_determinant_194 rfl rfl (Nat.le_of_ble_eq_true rfl) h (fun h => ?_)
  refine e_imul (pc' := 196) dX7_determinant_195 rfl ?_
  refine e_isub (pc' := 197) dX7_determinant_196 rfl ?_
  refine e_imul (pc' := 198) dX7_determinant_197 rfl ?_
  refine e_iadd (pc' := 199) dX7_determinant_198 rfl ?_
  obtain rfl := g_re1 h
  exact e_iret dX7_determinant_199
set_option maxHeartbeats 4000000 in
set_option maxRecDepth 100000 in
theorem w_X7_determinant_p50 (I : Nat → Int32) (A : Nat → Nat → Int32) (L : Nat → Int64) : ∀ (x4 : Int32) (x6 : Int32) (x7 : Int32) (x8 : Int32) (x9 : Int32) (s0 : Int32) (t : Int32), f_X7_determinant_p50 I A L x4 x6 x7 x8 x9 s0 = some t → Ev 70 RX7 cX7_determinant 12 (some .int) 0 50 [none, none, none, none, some (.int x4), some (.ref 60), some (.int x6), some (.int x7), some (.int x8), some (.int x9), none, none] [.int s0] I A L (some (.int t), (I, A, L)) := by
  intro x4 x6 x7 x8 x9 s0  t h
  unfold f_X7_determinant_p50 at h
  refine e_istore (pc' := 52) (i := 10) (lc' := [none, none, none, none, some (.int x4), some (.ref 60), some (.int x6), some (.int x7), some (.int x8), some (.int x9), some (.int s0), none]) dX7_determinant_50 rfl (Nat.le_of_ble_eq_true rfl) rfl rfl ?_
  refine e_iload (pc' := 54) (i := 4) rfl dX7_determinant_52 rfl ?_
  refine e_iconst (v := 2) (pc' := 55) (by decide) dX7_determinant_54 rfl ?_
  refine e_icmp_ne (tgt := 62) (pc' := 58) dX7_determinant_55 (by decide) rfl h (fun h => ?_) (fun h => ?_)
  · refine e_iconst (v := 2) (pc' := 63) (by decide) dX7_determinant_62 rfl ?_
    exact e_weak (lc' := [none, none, none, none, none, some (.ref 60), some (.int x6), some (.int x7), some (.int x8), some (.int x9), some (.int s0), none]) (gle_n (gle_n (gle_n (gle_n (gle_n (gle_s (gle_s (gle_s (gle_s (gle_s (gle_s (gle_n gle_0)))))))))))) (w_X7_determinant_p63 I A L  _ _ _ _ _ _ _ h)
  · refine e_iconst (v := 3) (pc' := 59) (by decide) dX7_determinant_58 rfl ?_
    refine e_goto (tgt := 63) dX7_determinant_59 (by decide) ?_
    exact e_weak (lc' := [none, none, none, none, none, some (.ref 60), some (.int x6), some (.int x7), some (.int x8), some (.int x9), some (.int s0), none]) (gle_n (gle_n (gle_n (gle_n (gle_n (gle_s (gle_s (gle_s (gle_s (gle_s (gle_s (gle_n gle_0)))))))))))) (w_X7_determinant_p63 I A L  _ _ _ _ _ _ _ h)
set_option maxHeartbeats 4000000 in
set_option maxRecDepth 100000 in
theorem w_X7_determinant_p37 (I : Nat → Int32) (A : Nat → Nat → Int32) (L : Nat → Int64) : ∀ (x4 : Int32) (x6 : Int32) (x7 : Int32) (x8 : Int32) (s0 : Int32) (t : Int32), f_X7_determinant_p37 I A L x4 x6 x7 x8 s0 = some t → Ev 70 RX7 cX7_determinant 12 (some .int) 0 37 [none, none, none, none, some (.int x4), some (.ref 60), some (.int x6), some (.int x7), some (.int x8), none, none, none] [.int s0] I A L (some (.int t), (I, A, L)) := by
  intro x4 x6 x7 x8 s0  t h
  unfold f_X7_determinant_p37 at h
  refine e_istore (pc' := 39) (i := 9) (lc' := [none, none, none, none, some (.int x4), some (.ref 60), some (.int x6), some (.int x7), some (.int x8), some (.int s0), none, none]) dX7_determinant_37 rfl (Nat.le_of_ble_eq_true rfl) rfl rfl ?_
  refine e_iload (pc' := 41) (i := 4) rfl dX7_determinant_39 rfl ?_
  refine e_iconst (v := 1) (pc' := 42) (by decide) dX7_determinant_41 rfl ?_
  refine e_icmp_ne (tgt := 49) (pc' := 45) dX7_determinant_42 (by decide) rfl h (fun h => ?_) (fun h => ?_)
  · refine e_iconst (v := 1) (pc' := 50) (by decide) dX7_determinant_49 rfl ?_
    exact e_weak (lc' := [none, none, none, none, some (.int x4), some (.ref 60), some (.int x6), some (.int x7), some (.int x8), some (.int s0), none, none]) (gle_n (gle_n (gle_n (gle_n (gle_s (gle_s (gle_s (gle_s (gle_s (gle_s (gle_n (gle_n gle_0)))))))))))) (w_X7_determinant_p50 I A L  _ _ _ _ _ _ _ h)
  · refine e_iconst (v := 3) (pc' := 46) (by decide) dX7_determinant_45 rfl ?_
    refine e_goto (tgt := 50) dX7_determinant_46 (by decide) ?_
    exact e_weak (lc' := [none, none, none, none, some (.int x4), some (.ref 60), some (.int x6), some (.int x7), some (.int x8), some (.int s0), none, none]) (gle_n (gle_n (gle_n (gle_n (gle_s (gle_s (gle_s (gle_s (gle_s (gle_s (gle_n (gle_n gle_0)))))))))))) (w_X7_determinant_p50 I A L  _ _ _ _ _ _ _ h)
set_option maxHeartbeats 4000000 in
set_option maxRecDepth 100000 in
theorem c_X7_determinant (a0 : Int32) (a1 : Int32) (a2 : Int32) (a3 : Int32) {I : Nat → Int32} {A : Nat → Nat → Int32} {L : Nat → Int64} {t : Int32} (h : f_X7_determinant I A L a0 a1 a2 a3 = some t) : GM 70 yX7_determinant cX7_determinant 12 (some .int) 0 [.ref 59, .int a0, .int a1, .int a2, .int a3] I A L (some (.int t), (I, A, L)) := by
  refine gm_of (n := 7) (lc := [some (.ref 59), some (.int a0), some (.int a1), some (.int a2), some (.int a3), none, none, none, none, none, none, none]) (by decide +kernel) rfl (fun _ => Nat.le_of_ble_eq_true rfl) ?_
  change Ev 70 RX7 cX7_determinant 12 (some .int) 0 0 [some (.ref 59), some (.int a0), some (.int a1), some (.int a2), some (.int a3), none, none, none, none, none, none, none] [] I A L _
  unfold f_X7_determinant at h
  refine e_aload_n (pc' := 1) (i := 0) rfl rfl dX7_determinant_0 rfl ?_
  refine e_getR (a := 59) (b := 60) (k0 := 0) (pc' := 4) dX7_determinant_1 rfl rfl (Nat.le_of_ble_eq_true rfl) (Nat.le_of_ble_eq_true rfl) rfl mw_794 rfl ?_
  refine e_astore (pc' := 6) (i := 5) (lc' := [some (.ref 59), some (.int a0), some (.int a1), some (.int a2), some (.int a3), some (.ref 60), none, none, none, none, none, none]) dX7_determinant_4 rfl (Nat.le_of_ble_eq_true rfl) rfl rfl ?_
  refine e_iconst (v := 1) (pc' := 7) (by decide) dX7_determinant_6 rfl ?_
  refine e_iconst (v := 4) (pc' := 8) (by decide) dX7_determinant_7 rfl ?_
  refine e_iload_n (pc' := 9) (i := 1) rfl rfl dX7_determinant_8 rfl ?_
  refine e_imul (pc' := 10) dX7_determinant_9 rfl ?_
  refine e_iadd (pc' := 11) dX7_determinant_10 rfl ?_
  refine e_istore (pc' := 13) (i := 6) (lc' := [some (.ref 59), some (.int a0), some (.int a1), some (.int a2), some (.int a3), some (.ref 60), some (.int (1 + (4 * a0))), none, none, none, none, none]) dX7_determinant_11 rfl (Nat.le_of_ble_eq_true rfl) rfl rfl ?_
  refine e_iconst (v := 1) (pc' := 14) (by decide) dX7_determinant_13 rfl ?_
  refine e_iconst (v := 4) (pc' := 15) (by decide) dX7_determinant_14 rfl ?_
  refine e_iload_n (pc' := 16) (i := 2) rfl rfl dX7_determinant_15 rfl ?_
  refine e_imul (pc' := 17) dX7_determinant_16 rfl ?_
  refine e_iadd (pc' := 18) dX7_determinant_17 rfl ?_
  refine e_istore (pc' := 20) (i := 7) (lc' := [some (.ref 59), some (.int a0), some (.int a1), some (.int a2), some (.int a3), some (.ref 60), some (.int (1 + (4 * a0))), some (.int (1 + (4 * a1))), none, none, none, none]) dX7_determinant_18 rfl (Nat.le_of_ble_eq_true rfl) rfl rfl ?_
  refine e_iconst (v := 1) (pc' := 21) (by decide) dX7_determinant_20 rfl ?_
  refine e_iconst (v := 4) (pc' := 22) (by decide) dX7_determinant_21 rfl ?_
  refine e_iload_n (pc' := 23) (i := 3) rfl rfl dX7_determinant_22 rfl ?_
  refine e_imul (pc' := 24) dX7_determinant_23 rfl ?_
  refine e_iadd (pc' := 25) dX7_determinant_24 rfl ?_
  refine e_istore (pc' := 27) (i := 8) (lc' := [some (.ref 59), some (.int a0), some (.int a1), some (.int a2), some (.int a3), some (.ref 60), some (.int (1 + (4 * a0))), some (.int (1 + (4 * a1))), some (.int (1 + (4 * a2))), none, none, none]) dX7_determinant_25 rfl (Nat.le_of_ble_eq_true rfl) rfl rfl ?_
  refine e_iload (pc' := 29) (i := 4) rfl dX7_determinant_27 rfl ?_
  refine e_if_ne (tgt := 36) (pc' := 32) dX7_determinant_29 (by decide) rfl h (fun h => ?_) (fun h => ?_)
  · refine e_iconst (v := 0) (pc' := 37) (by decide) dX7_determinant_36 rfl ?_
    exact e_weak (lc' := [none, none, none, none, some (.int a3), some (.ref 60), some (.int (1 + (4 * a0))), some (.int (1 + (4 * a1))), some (.int (1 + (4 * a2))), none, none, none]) (gle_n (gle_n (gle_n (gle_n (gle_s (gle_s (gle_s (gle_s (gle_s (gle_n (gle_n (gle_n gle_0)))))))))))) (w_X7_determinant_p37 I A L  _ _ _ _ _ _ h)
  · refine e_iconst (v := 3) (pc' := 33) (by decide) dX7_determinant_32 rfl ?_
    refine e_goto (tgt := 37) dX7_determinant_33 (by decide) ?_
    exact e_weak (lc' := [none, none, none, none, some (.int a3), some (.ref 60), some (.int (1 + (4 * a0))), some (.int (1 + (4 * a1))), some (.int (1 + (4 * a2))), none, none, none]) (gle_n (gle_n (gle_n (gle_n (gle_s (gle_s (gle_s (gle_s (gle_s (gle_n (gle_n (gle_n gle_0)))))))))))) (w_X7_determinant_p37 I A L  _ _ _ _ _ _ h)
set_option maxHeartbeats 4000000 in
set_option maxRecDepth 100000 in
theorem c_X7_isAhead (a0 : Int32) (a1 : Int32) (a2 : Int32) (a3 : Int32) (a4 : Int32) {I : Nat → Int32} {A : Nat → Nat → Int32} {L : Nat → Int64} {t : Int32} (h : f_X7_isAhead I A L a0 a1 a2 a3 a4 = some t) : GM 70 yX7_isAhead cX7_isAhead 9 (some .boolean) 0 [.ref 59, .int a0, .int a1, .int a2, .int a3, .int a4] I A L (some (.int t), (I, A, L)) := by
  refine gm_of (n := 3) (lc := [some (.ref 59), some (.int a0), some (.int a1), some (.int a2), some (.int a3), some (.int a4), none, none, none]) (by decide +kernel) rfl (fun _ => Nat.le_of_ble_eq_true rfl) ?_
  change Ev 70 RX7 cX7_isAhead 9 (some .boolean) 0 0 [some (.ref 59), some (.int a0), some (.int a1), some (.int a2), some (.int a3), some (.int a4), none, none, none] [] I A L _
  unfold f_X7_isAhead at h
  refine e_iload_n (pc' := 1) (i := 1) rfl rfl dX7_isAhead_0 rfl ?_
  refine e_aload_n (pc' := 2) (i := 0) rfl rfl dX7_isAhead_1 rfl ?_
  refine e_getR (a := 59) (b := 65) (k0 := 10) (pc' := 5) dX7_isAhead_2 rfl rfl (Nat.le_of_ble_eq_true rfl) (Nat.le_of_ble_eq_true rfl) rfl mw_804 rfl ?_
  refine e_iconst (v := 5) (pc' := 6) (by decide) dX7_isAhead_5 rfl ?_
  refine e_iload (pc' := 8) (i := 5) rfl dX7_isAhead_6 rfl ?_
  refine e_imul (pc' := 9) dX7_isAhead_8 rfl ?_
  refine e_iconst (v := 3) (pc' := 10) (by decide) dX7_isAhead_9 rfl ?_
  refine e_iadd (pc' := 11) dX7_isAhead_10 rfl ?_
  refine e_iald (n := 320) (pc' := 12) dX7_isAhead_11 rfl rfl (Nat.le_of_ble_eq_true rfl) h (fun h => ?_)
  refine e_imul (pc' := 13) dX7_isAhead_12 rfl ?_
  refine e_aload_n (pc' := 14) (i := 0) rfl rfl dX7_isAhead_13 rfl ?_
  refine e_getR (a := 59) (b := 65) (k0 := 10) (pc' := 17) dX7_isAhead_14 rfl rfl (Nat.le_of_ble_eq_true rfl) (Nat.le_of_ble_eq_true rfl) rfl mw_804 rfl ?_
  refine e_iconst (v := 5) (pc' := 18) (by decide) dX7_isAhead_17 rfl ?_
  refine e_iload (pc' := 20) (i := 5) rfl dX7_isAhead_18 rfl ?_
  refine e_imul (pc' := 21) dX7_isAhead_20 rfl ?_
  refine e_iald (n := 320) (pc' := 22) dX7_isAhead_21 rfl rfl (Nat.le_of_ble_eq_true rfl) h (fun h => ?_)
  refine e_iload (pc' := 24) (i := 4) rfl dX7_isAhead_22 rfl ?_
  refine e_imul (pc' := 25) dX7_isAhead_24 rfl ?_
  refine e_isub (pc' := 26) dX7_isAhead_25 rfl ?_
  refine e_lt h (fun v1 h => ?_)
  refine e_istore (pc' := 28) (i := 6) (lc' := [some (.ref 59), some (.int a0), some (.int a1), some (.int a2), some (.int a3), some (.int a4), some (.int v1), none, none]) dX7_isAhead_26 rfl (Nat.le_of_ble_eq_true rfl) rfl rfl ?_
  refine e_iload_n (pc' := 29) (i := 2) rfl rfl dX7_isAhead_28 rfl ?_
  refine e_aload_n (pc' := 30) (i := 0) rfl rfl dX7_isAhead_29 rfl ?_
  refine e_getR (a := 59) (b := 65) (k0 := 10) (pc' := 33) dX7_isAhead_30 rfl rfl (Nat.le_of_ble_eq_true rfl) (Nat.le_of_ble_eq_true rfl) rfl mw_804 rfl ?_
  refine e_iconst (v := 5) (pc' := 34) (by decide) dX7_isAhead_33 rfl ?_
  refine e_iload (pc' := 36) (i := 5) rfl dX7_isAhead_34 rfl ?_
  refine e_imul (pc' := 37) dX7_isAhead_36 rfl ?_
  refine e_iconst (v := 3) (pc' := 38) (by decide) dX7_isAhead_37 rfl ?_
  refine e_iadd (pc' := 39) dX7_isAhead_38 rfl ?_
  refine e_iald (n := 320) (pc' := 40) dX7_isAhead_39 rfl rfl (Nat.le_of_ble_eq_true rfl) h (fun h => ?_)
  refine e_imul (pc' := 41) dX7_isAhead_40 rfl ?_
  refine e_aload_n (pc' := 42) (i := 0) rfl rfl dX7_isAhead_41 rfl ?_
  refine e_getR (a := 59) (b := 65) (k0 := 10) (pc' := 45) dX7_isAhead_42 rfl rfl (Nat.le_of_ble_eq_true rfl) (Nat.le_of_ble_eq_true rfl) rfl mw_804 rfl ?_
  refine e_iconst (v := 5) (pc' := 46) (by decide) dX7_isAhead_45 rfl ?_
  refine e_iload (pc' := 48) (i := 5) rfl dX7_isAhead_46 rfl ?_
  refine e_imul (pc' := 49) dX7_isAhead_48 rfl ?_
  refine e_iconst (v := 1) (pc' := 50) (by decide) dX7_isAhead_49 rfl ?_
  refine e_iadd (pc' := 51) dX7_isAhead_50 rfl ?_
  refine e_iald (n := 320) (pc' := 52) dX7_isAhead_51 rfl rfl (Nat.le_of_ble_eq_true rfl) h (fun h => ?_)
  refine e_iload (pc' := 54) (i := 4) rfl dX7_isAhead_52 rfl ?_
  refine e_imul (pc' := 55) dX7_isAhead_54 rfl ?_
  refine e_isub (pc' := 56) dX7_isAhead_55 rfl ?_
  refine e_lt h (fun v2 h => ?_)
  refine e_istore (pc' := 58) (i := 7) (lc' := [some (.ref 59), some (.int a0), some (.int a1), some (.int a2), some (.int a3), some (.int a4), some (.int v1), some (.int v2), none]) dX7_isAhead_56 rfl (Nat.le_of_ble_eq_true rfl) rfl rfl ?_
  refine e_iload_n (pc' := 59) (i := 3) rfl rfl dX7_isAhead_58 rfl ?_
  refine e_aload_n (pc' := 60) (i := 0) rfl rfl dX7_isAhead_59 rfl ?_
  refine e_getR (a := 59) (b := 65) (k0 := 10) (pc' := 63) dX7_isAhead_60 rfl rfl (Nat.le_of_ble_eq_true rfl) (Nat.le_of_ble_eq_true rfl) rfl mw_804 rfl ?_
  refine e_iconst (v := 5) (pc' := 64) (by decide) dX7_isAhead_63 rfl ?_
  refine e_iload (pc' := 66) (i := 5) rfl dX7_isAhead_64 rfl ?_
  refine e_imul (pc' := 67) dX7_isAhead_66 rfl ?_
  refine e_iconst (v := 3) (pc' := 68) (by decide) dX7_isAhead_67 rfl ?_
  refine e_iadd (pc' := 69) dX7_isAhead_68 rfl ?_
  refine e_iald (n := 320) (pc' := 70) dX7_isAhead_69 rfl rfl (Nat.le_of_ble_eq_true rfl) h (fun h => ?_)
  refine e_imul (pc' := 71) dX7_isAhead_70 rfl ?_
  refine e_aload_n (pc' := 72) (i := 0) rfl rfl dX7_isAhead_71 rfl ?_
  refine e_getR (a := 59) (b := 65) (k0 := 10) (pc' := 75) dX7_isAhead_72 rfl rfl (Nat.le_of_ble_eq_true rfl) (Nat.le_of_ble_eq_true rfl) rfl mw_804 rfl ?_
  refine e_iconst (v := 5) (pc' := 76) (by decide) dX7_isAhead_75 rfl ?_
  refine e_iload (pc' := 78) (i := 5) rfl dX7_isAhead_76 rfl ?_
  refine e_imul (pc' := 79) dX7_isAhead_78 rfl ?_
  refine e_iconst (v := 2) (pc' := 80) (by decide) dX7_isAhead_79 rfl ?_
  refine e_iadd (pc' := 81) dX7_isAhead_80 rfl ?_
  refine e_iald (n := 320) (pc' := 82) dX7_isAhead_81 rfl rfl (Nat.le_of_ble_eq_true rfl) h (fun h => ?_)
  refine e_iload (pc' := 84) (i := 4) rfl dX7_isAhead_82 rfl ?_
  refine e_imul (pc' := 85) dX7_isAhead_84 rfl ?_
  refine e_isub (pc' := 86) dX7_isAhead_85 rfl ?_
  refine e_lt h (fun v3 h => ?_)
  refine e_istore (pc' := 88) (i := 8) (lc' := [some (.ref 59), some (.int a0), some (.int a1), some (.int a2), some (.int a3), some (.int a4), some (.int v1), some (.int v2), some (.int v3)]) dX7_isAhead_86 rfl (Nat.le_of_ble_eq_true rfl) rfl rfl ?_
  refine e_iload (pc' := 90) (i := 6) rfl dX7_isAhead_88 rfl ?_
  refine e_if_eq (tgt := 106) (pc' := 93) dX7_isAhead_90 (by decide) rfl h (fun h => ?_) (fun h => ?_)
  · refine e_iload (pc' := 108) (i := 7) rfl dX7_isAhead_106 rfl ?_
    refine e_if_eq (tgt := 124) (pc' := 111) dX7_isAhead_108 (by decide) rfl h (fun h => ?_) (fun h => ?_)
    · refine e_iload (pc' := 126) (i := 8) rfl dX7_isAhead_124 rfl ?_
      refine e_if_ge (tgt := 133) (pc' := 129) dX7_isAhead_126 (by decide) rfl h (fun h => ?_) (fun h => ?_)
      · refine e_iconst (v := 0) (pc' := 134) (by decide) dX7_isAhead_133 rfl ?_
        obtain rfl := g_re1 h
        exact e_zret dX7_isAhead_134 (by decide)
      · refine e_iconst (v := 1) (pc' := 130) (by decide) dX7_isAhead_129 rfl ?_
        refine e_goto (tgt := 134) dX7_isAhead_130 (by decide) ?_
        obtain rfl := g_re1 h
        exact e_zret dX7_isAhead_134 (by decide)
    · refine e_iload (pc' := 113) (i := 7) rfl dX7_isAhead_111 rfl ?_
      refine e_if_ge (tgt := 120) (pc' := 116) dX7_isAhead_113 (by decide) rfl h (fun h => ?_) (fun h => ?_)
      · refine e_iconst (v := 0) (pc' := 121) (by decide) dX7_isAhead_120 rfl ?_
        refine e_goto (tgt := 134) dX7_isAhead_121 (by decide) ?_
        obtain rfl := g_re1 h
        exact e_zret dX7_isAhead_134 (by decide)
      · refine e_iconst (v := 1) (pc' := 117) (by decide) dX7_isAhead_116 rfl ?_
        refine e_goto (tgt := 134) dX7_isAhead_117 (by decide) ?_
        obtain rfl := g_re1 h
        exact e_zret dX7_isAhead_134 (by decide)
  · refine e_iload (pc' := 95) (i := 6) rfl dX7_isAhead_93 rfl ?_
    refine e_if_ge (tgt := 102) (pc' := 98) dX7_isAhead_95 (by decide) rfl h (fun h => ?_) (fun h => ?_)
    · refine e_iconst (v := 0) (pc' := 103) (by decide) dX7_isAhead_102 rfl ?_
      refine e_goto (tgt := 134) dX7_isAhead_103 (by decide) ?_
      obtain rfl := g_re1 h
      exact e_zret dX7_isAhead_134 (by decide)
    · refine e_iconst (v := 1) (pc' := 99) (by decide) dX7_isAhead_98 rfl ?_
      refine e_goto (tgt := 134) dX7_isAhead_99 (by decide) ?_
      obtain rfl := g_re1 h
      exact e_zret dX7_isAhead_134 (by decide)
set_option maxHeartbeats 4000000 in
set_option maxRecDepth 100000 in
theorem w_X7_isCorner_p3 (I : Nat → Int32) (A : Nat → Nat → Int32) (L : Nat → Int64) : ∀ (n : Nat) (x1 : Int32) (x2 : Int32) (x3 : Int32) (x4 : Int32) (x5 : Int32) (t : Int32), f_X7_isCorner_p3 I A L n x1 x2 x3 x4 x5 = some t → Ev 70 RX7 cX7_isCorner 6 (some .boolean) 0 3 [some (.ref 59), some (.int x1), some (.int x2), some (.int x3), some (.int x4), some (.int x5)] [] I A L (some (.int t), (I, A, L)) := by
  intro n
  induction n with
  | zero =>
    intro x1 x2 x3 x4 x5 t h
    cases h
  | succ n ih =>
    intro x1 x2 x3 x4 x5 t h
    rw [f_X7_isCorner_p3] at h
    refine e_iload (pc' := 5) (i := 5) rfl dX7_isCorner_3 rfl ?_
    refine e_aload_n (pc' := 6) (i := 0) rfl rfl dX7_isCorner_5 rfl ?_
    refine e_getI (a := 59) (n := 955) (k0 := 11) (pc' := 9) dX7_isCorner_6 rfl rfl (Nat.le_of_ble_eq_true rfl) (Nat.le_of_ble_eq_true rfl) rfl mw_805 rfl ?_
    refine e_icmp_ge (tgt := 79) (pc' := 12) dX7_isCorner_9 (by decide) rfl h (fun h => ?_) (fun h => ?_)
    · refine e_iconst (v := 0) (pc' := 80) (by decide) dX7_isCorner_79 rfl ?_
      obtain rfl := g_re1 h
      exact e_zret dX7_isCorner_80 (by decide)
    · refine e_aload_n (pc' := 13) (i := 0) rfl rfl dX7_isCorner_12 rfl ?_
      refine e_getR (a := 59) (b := 65) (k0 := 10) (pc' := 16) dX7_isCorner_13 rfl rfl (Nat.le_of_ble_eq_true rfl) (Nat.le_of_ble_eq_true rfl) rfl mw_804 rfl ?_
      refine e_iconst (v := 5) (pc' := 17) (by decide) dX7_isCorner_16 rfl ?_
      refine e_iload (pc' := 19) (i := 5) rfl dX7_isCorner_17 rfl ?_
      refine e_imul (pc' := 20) dX7_isCorner_19 rfl ?_
      refine e_iald (n := 320) (pc' := 21) dX7_isCorner_20 rfl rfl (Nat.le_of_ble_eq_true rfl) h (fun h => ?_)
      refine e_iload_n (pc' := 22) (i := 1) rfl rfl dX7_isCorner_21 rfl ?_
      refine e_icmp_ne (tgt := 73) (pc' := 25) dX7_isCorner_22 (by decide) rfl h (fun h => ?_) (fun h => ?_)
      · refine e_iinc (pc' := 76) (v := (x5 + 1)) (lc' := [some (.ref 59), some (.int x1), some (.int x2), some (.int x3), some (.int x4), some (.int (x5 + 1))]) dX7_isCorner_73 rfl rfl rfl (Nat.le_of_ble_eq_true rfl) rfl rfl ?_
        refine e_goto (tgt := 3) dX7_isCorner_76 (by decide) ?_
        exact e_weak (lc' := [some (.ref 59), some (.int x1), some (.int x2), some (.int x3), some (.int x4), some (.int (x5 + 1))]) (gle_s (gle_s (gle_s (gle_s (gle_s (gle_s gle_0)))))) (ih _ _ _ _ _ _ h)
      · refine e_aload_n (pc' := 26) (i := 0) rfl rfl dX7_isCorner_25 rfl ?_
        refine e_getR (a := 59) (b := 65) (k0 := 10) (pc' := 29) dX7_isCorner_26 rfl rfl (Nat.le_of_ble_eq_true rfl) (Nat.le_of_ble_eq_true rfl) rfl mw_804 rfl ?_
        refine e_iconst (v := 5) (pc' := 30) (by decide) dX7_isCorner_29 rfl ?_
        refine e_iload (pc' := 32) (i := 5) rfl dX7_isCorner_30 rfl ?_
        refine e_imul (pc' := 33) dX7_isCorner_32 rfl ?_
        refine e_iconst (v := 1) (pc' := 34) (by decide) dX7_isCorner_33 rfl ?_
        refine e_iadd (pc' := 35) dX7_isCorner_34 rfl ?_
        refine e_iald (n := 320) (pc' := 36) dX7_isCorner_35 rfl rfl (Nat.le_of_ble_eq_true rfl) h (fun h => ?_)
        refine e_iload_n (pc' := 37) (i := 2) rfl rfl dX7_isCorner_36 rfl ?_
        refine e_icmp_ne (tgt := 73) (pc' := 40) dX7_isCorner_37 (by decide) rfl h (fun h => ?_) (fun h => ?_)
        · refine e_iinc (pc' := 76) (v := (x5 + 1)) (lc' := [some (.ref 59), some (.int x1), some (.int x2), some (.int x3), some (.int x4), some (.int (x5 + 1))]) dX7_isCorner_73 rfl rfl rfl (Nat.le_of_ble_eq_true rfl) rfl rfl ?_
          refine e_goto (tgt := 3) dX7_isCorner_76 (by decide) ?_
          exact e_weak (lc' := [some (.ref 59), some (.int x1), some (.int x2), some (.int x3), some (.int x4), some (.int (x5 + 1))]) (gle_s (gle_s (gle_s (gle_s (gle_s (gle_s gle_0)))))) (ih _ _ _ _ _ _ h)
        · refine e_aload_n (pc' := 41) (i := 0) rfl rfl dX7_isCorner_40 rfl ?_
          refine e_getR (a := 59) (b := 65) (k0 := 10) (pc' := 44) dX7_isCorner_41 rfl rfl (Nat.le_of_ble_eq_true rfl) (Nat.le_of_ble_eq_true rfl) rfl mw_804 rfl ?_
          refine e_iconst (v := 5) (pc' := 45) (by decide) dX7_isCorner_44 rfl ?_
          refine e_iload (pc' := 47) (i := 5) rfl dX7_isCorner_45 rfl ?_
          refine e_imul (pc' := 48) dX7_isCorner_47 rfl ?_
          refine e_iconst (v := 2) (pc' := 49) (by decide) dX7_isCorner_48 rfl ?_
          refine e_iadd (pc' := 50) dX7_isCorner_49 rfl ?_
          refine e_iald (n := 320) (pc' := 51) dX7_isCorner_50 rfl rfl (Nat.le_of_ble_eq_true rfl) h (fun h => ?_)
          refine e_iload_n (pc' := 52) (i := 3) rfl rfl dX7_isCorner_51 rfl ?_
          refine e_icmp_ne (tgt := 73) (pc' := 55) dX7_isCorner_52 (by decide) rfl h (fun h => ?_) (fun h => ?_)
          · refine e_iinc (pc' := 76) (v := (x5 + 1)) (lc' := [some (.ref 59), some (.int x1), some (.int x2), some (.int x3), some (.int x4), some (.int (x5 + 1))]) dX7_isCorner_73 rfl rfl rfl (Nat.le_of_ble_eq_true rfl) rfl rfl ?_
            refine e_goto (tgt := 3) dX7_isCorner_76 (by decide) ?_
            exact e_weak (lc' := [some (.ref 59), some (.int x1), some (.int x2), some (.int x3), some (.int x4), some (.int (x5 + 1))]) (gle_s (gle_s (gle_s (gle_s (gle_s (gle_s gle_0)))))) (ih _ _ _ _ _ _ h)
          · refine e_aload_n (pc' := 56) (i := 0) rfl rfl dX7_isCorner_55 rfl ?_
            refine e_getR (a := 59) (b := 65) (k0 := 10) (pc' := 59) dX7_isCorner_56 rfl rfl (Nat.le_of_ble_eq_true rfl) (Nat.le_of_ble_eq_true rfl) rfl mw_804 rfl ?_
            refine e_iconst (v := 5) (pc' := 60) (by decide) dX7_isCorner_59 rfl ?_
            refine e_iload (pc' := 62) (i := 5) rfl dX7_isCorner_60 rfl ?_
            refine e_imul (pc' := 63) dX7_isCorner_62 rfl ?_
            refine e_iconst (v := 3) (pc' := 64) (by decide) dX7_isCorner_63 rfl ?_
            refine e_iadd (pc' := 65) dX7_isCorner_64 rfl ?_
            refine e_iald (n := 320) (pc' := 66) dX7_isCorner_65 rfl rfl (Nat.le_of_ble_eq_true rfl) h (fun h => ?_)
            refine e_iload (pc' := 68) (i := 4) rfl dX7_isCorner_66 rfl ?_
            refine e_icmp_ne (tgt := 73) (pc' := 71) dX7_isCorner_68 (by decide) rfl h (fun h => ?_) (fun h => ?_)
            · refine e_iinc (pc' := 76) (v := (x5 + 1)) (lc' := [some (.ref 59), some (.int x1), some (.int x2), some (.int x3), some (.int x4), some (.int (x5 + 1))]) dX7_isCorner_73 rfl rfl rfl (Nat.le_of_ble_eq_true rfl) rfl rfl ?_
              refine e_goto (tgt := 3) dX7_isCorner_76 (by decide) ?_
              exact e_weak (lc' := [some (.ref 59), some (.int x1), some (.int x2), some (.int x3), some (.int x4), some (.int (x5 + 1))]) (gle_s (gle_s (gle_s (gle_s (gle_s (gle_s gle_0)))))) (ih _ _ _ _ _ _ h)
            · refine e_iconst (v := 1) (pc' := 72) (by decide) dX7_isCorner_71 rfl ?_
              obtain rfl := g_re1 h
              exact e_zret dX7_isCorner_72 (by decide)
set_option maxHeartbeats 4000000 in
set_option maxRecDepth 100000 in
theorem c_X7_isCorner (a0 : Int32) (a1 : Int32) (a2 : Int32) (a3 : Int32) {I : Nat → Int32} {A : Nat → Nat → Int32} {L : Nat → Int64} {t : Int32} (h : f_X7_isCorner I A L a0 a1 a2 a3 = some t) : GM 70 yX7_isCorner cX7_isCorner 6 (some .boolean) 0 [.ref 59, .int a0, .int a1, .int a2, .int a3] I A L (some (.int t), (I, A, L)) := by
  refine gm_of (n := 1) (lc := [some (.ref 59), some (.int a0), some (.int a1), some (.int a2), some (.int a3), none]) (by decide +kernel) rfl (fun _ => Nat.le_of_ble_eq_true rfl) ?_
  change Ev 70 RX7 cX7_isCorner 6 (some .boolean) 0 0 [some (.ref 59), some (.int a0), some (.int a1), some (.int a2), some (.int a3), none] [] I A L _
  unfold f_X7_isCorner at h
  refine e_iconst (v := 0) (pc' := 1) (by decide) dX7_isCorner_0 rfl ?_
  refine e_istore (pc' := 3) (i := 5) (lc' := [some (.ref 59), some (.int a0), some (.int a1), some (.int a2), some (.int a3), some (.int 0)]) dX7_isCorner_1 rfl (Nat.le_of_ble_eq_true rfl) rfl rfl ?_
  exact e_weak (lc' := [some (.ref 59), some (.int a0), some (.int a1), some (.int a2), some (.int a3), some (.int 0)]) (gle_s (gle_s (gle_s (gle_s (gle_s (gle_s gle_0)))))) (w_X7_isCorner_p3 I A L  _ _ _ _ _ _ _ h)
set_option maxHeartbeats 4000000 in
set_option maxRecDepth 100000 in
theorem c_X7_far (a0 : Int32) (a1 : Int32) (a2 : Int32) (a3 : Int32) {I : Nat → Int32} {A : Nat → Nat → Int32} {L : Nat → Int64} {t : Int32} (h : f_X7_far I A L a0 a1 a2 a3 = some t) : GM 70 yX7_far cX7_far 5 (some .int) 1 [.ref 59, .int a0, .int a1, .int a2, .int a3] I A L (some (.int t), (I, A, L)) := by
  refine gm_of (n := 0) (lc := [some (.ref 59), some (.int a0), some (.int a1), some (.int a2), some (.int a3)]) (by decide +kernel) rfl (fun _ => Nat.le_of_ble_eq_true rfl) ?_
  change Ev 70 RX7 cX7_far 5 (some .int) 1 0 [some (.ref 59), some (.int a0), some (.int a1), some (.int a2), some (.int a3)] [] I A L _
  unfold f_X7_far at h
  refine e_aload_n (pc' := 1) (i := 0) rfl rfl dX7_far_0 rfl ?_
  refine e_iload_n (pc' := 2) (i := 1) rfl rfl dX7_far_1 rfl ?_
  refine e_iconst (v := 0) (pc' := 3) (by decide) dX7_far_2 rfl ?_
  obtain ⟨v2, hF1, h⟩ := g_bd_e h
  refine e_callV_i (pc' := 6) dX7_far_3 rfl mw_894 mv_X7_get rfl (Nat.le_of_ble_eq_true rfl) (Nat.le_of_ble_eq_true rfl) rfl (Nat.le_of_ble_eq_true rfl) (Nat.le_of_ble_eq_true rfl) rfl (c_X7_get _ _ hF1) rfl ?_
  refine e_iload_n (pc' := 7) (i := 2) rfl rfl dX7_far_6 rfl ?_
  refine e_imul (pc' := 8) dX7_far_7 rfl ?_
  refine e_aload_n (pc' := 9) (i := 0) rfl rfl dX7_far_8 rfl ?_
  refine e_iload_n (pc' := 10) (i := 1) rfl rfl dX7_far_9 rfl ?_
  refine e_iconst (v := 1) (pc' := 11) (by decide) dX7_far_10 rfl ?_
  obtain ⟨v4, hF3, h⟩ := g_bd_e h
  refine e_callV_i (pc' := 14) dX7_far_11 rfl mw_894 mv_X7_get rfl (Nat.le_of_ble_eq_true rfl) (Nat.le_of_ble_eq_true rfl) rfl (Nat.le_of_ble_eq_true rfl) (Nat.le_of_ble_eq_true rfl) rfl (c_X7_get _ _ hF3) rfl ?_
  refine e_iload_n (pc' := 15) (i := 3) rfl rfl dX7_far_14 rfl ?_
  refine e_imul (pc' := 16) dX7_far_15 rfl ?_
  refine e_iadd (pc' := 17) dX7_far_16 rfl ?_
  refine e_aload_n (pc' := 18) (i := 0) rfl rfl dX7_far_17 rfl ?_
  refine e_iload_n (pc' := 19) (i := 1) rfl rfl dX7_far_18 rfl ?_
  refine e_iconst (v := 2) (pc' := 20) (by decide) dX7_far_19 rfl ?_
  obtain ⟨v6, hF5, h⟩ := g_bd_e h
  refine e_callV_i (pc' := 23) dX7_far_20 rfl mw_894 mv_X7_get rfl (Nat.le_of_ble_eq_true rfl) (Nat.le_of_ble_eq_true rfl) rfl (Nat.le_of_ble_eq_true rfl) (Nat.le_of_ble_eq_true rfl) rfl (c_X7_get _ _ hF5) rfl ?_
  refine e_iload (pc' := 25) (i := 4) rfl dX7_far_23 rfl ?_
  refine e_imul (pc' := 26) dX7_far_25 rfl ?_
  refine e_iadd (pc' := 27) dX7_far_26 rfl ?_
  obtain rfl := g_re1 h
  exact e_iret dX7_far_27
set_option maxHeartbeats 4000000 in
set_option maxRecDepth 100000 in
theorem w_X7_common_p22 (I : Nat → Int32) (A : Nat → Nat → Int32) (L : Nat → Int64) : ∀ (n : Nat) (x2 : Int32) (x3 : Int32) (t : Int32), f_X7_common_p22 I A L n x2 x3 = some t → Ev 70 RX7 cX7_common 5 (some .int) 0 22 [none, none, some (.int x2), some (.int x3), none] [] I A L (some (.int t), (I, A, L)) := by
  intro n
  induction n with
  | zero =>
    intro x2 x3 t h
    cases h
  | succ n ih =>
    intro x2 x3 t h
    rw [f_X7_common_p22] at h
    refine e_iload_n (pc' := 23) (i := 3) rfl rfl dX7_common_22 rfl ?_
    refine e_if_eq (tgt := 39) (pc' := 26) dX7_common_23 (by decide) rfl h (fun h => ?_) (fun h => ?_)
    · refine e_iload_n (pc' := 40) (i := 2) rfl rfl dX7_common_39 rfl ?_
      obtain rfl := g_re1 h
      exact e_iret dX7_common_40
    · refine e_iload_n (pc' := 27) (i := 2) rfl rfl dX7_common_26 rfl ?_
      refine e_iload_n (pc' := 28) (i := 3) rfl rfl dX7_common_27 rfl ?_
      obtain ⟨hz1, h⟩ := g_dv_e h
      refine e_irem (pc' := 29) hz1 dX7_common_28 rfl ?_
      refine e_lt h (fun v2 h => ?_)
      refine e_istore (pc' := 31) (i := 4) (lc' := [none, none, some (.int x2), some (.int x3), some (.int v2)]) dX7_common_29 rfl (Nat.le_of_ble_eq_true rfl) rfl rfl ?_
      refine e_iload_n (pc' := 32) (i := 3) rfl rfl dX7_common_31 rfl ?_
      refine e_istore_n (pc' := 33) (i := 2) (lc' := [none, none, some (.int x3), some (.int x3), some (.int v2)]) rfl dX7_common_32 rfl (Nat.le_of_ble_eq_true rfl) rfl rfl ?_
      refine e_iload (pc' := 35) (i := 4) rfl dX7_common_33 rfl ?_
      refine e_istore_n (pc' := 36) (i := 3) (lc' := [none, none, some (.int x3), some (.int v2), some (.int v2)]) rfl dX7_common_35 rfl (Nat.le_of_ble_eq_true rfl) rfl rfl ?_
      refine e_goto (tgt := 22) dX7_common_36 (by decide) ?_
      exact e_weak (lc' := [none, none, some (.int x3), some (.int v2), none]) (gle_n (gle_n (gle_s (gle_s (gle_n gle_0))))) (ih _ _ _ h)
set_option maxHeartbeats 4000000 in
set_option maxRecDepth 100000 in
theorem w_X7_common_p10 (I : Nat → Int32) (A : Nat → Nat → Int32) (L : Nat → Int64) : ∀ (x1 : Int32) (s0 : Int32) (t : Int32), f_X7_common_p10 I A L x1 s0 = some t → Ev 70 RX7 cX7_common 5 (some .int) 0 10 [none, some (.int x1), none, none, none] [.int s0] I A L (some (.int t), (I, A, L)) := by
  intro x1 s0  t h
  unfold f_X7_common_p10 at h
  refine e_istore_n (pc' := 11) (i := 2) (lc' := [none, some (.int x1), some (.int s0), none, none]) rfl dX7_common_10 rfl (Nat.le_of_ble_eq_true rfl) rfl rfl ?_
  refine e_iload_n (pc' := 12) (i := 1) rfl rfl dX7_common_11 rfl ?_
  refine e_if_ge (tgt := 20) (pc' := 15) dX7_common_12 (by decide) rfl h (fun h => ?_) (fun h => ?_)
  · refine e_iload_n (pc' := 21) (i := 1) rfl rfl dX7_common_20 rfl ?_
    refine e_istore_n (pc' := 22) (i := 3) (lc' := [none, some (.int x1), some (.int s0), some (.int x1), none]) rfl dX7_common_21 rfl (Nat.le_of_ble_eq_true rfl) rfl rfl ?_
    exact e_weak (lc' := [none, none, some (.int s0), some (.int x1), none]) (gle_n (gle_n (gle_s (gle_s (gle_n gle_0))))) (w_X7_common_p22 I A L  _ _ _ _ h)
  · refine e_iload_n (pc' := 16) (i := 1) rfl rfl dX7_common_15 rfl ?_
    refine e_ineg (pc' := 17) dX7_common_16 rfl ?_
    refine e_goto (tgt := 21) dX7_common_17 (by decide) ?_
    refine e_istore_n (pc' := 22) (i := 3) (lc' := [none, some (.int x1), some (.int s0), some (.int (-x1)), none]) rfl dX7_common_21 rfl (Nat.le_of_ble_eq_true rfl) rfl rfl ?_
    exact e_weak (lc' := [none, none, some (.int s0), some (.int (-x1)), none]) (gle_n (gle_n (gle_s (gle_s (gle_n gle_0))))) (w_X7_common_p22 I A L  _ _ _ _ h)
set_option maxHeartbeats 4000000 in
set_option maxRecDepth 100000 in
theorem c_X7_common (a0 : Int32) (a1 : Int32) {I : Nat → Int32} {A : Nat → Nat → Int32} {L : Nat → Int64} {t : Int32} (h : f_X7_common I A L a0 a1 = some t) : GM 70 yX7_common cX7_common 5 (some .int) 0 [.int a0, .int a1] I A L (some (.int t), (I, A, L)) := by
  refine gm_of (n := 3) (lc := [some (.int a0), some (.int a1), none, none, none]) (by decide +kernel) rfl (fun _ => Nat.le_of_ble_eq_true rfl) ?_
  change Ev 70 RX7 cX7_common 5 (some .int) 0 0 [some (.int a0), some (.int a1), none, none, none] [] I A L _
  unfold f_X7_common at h
  refine e_iload_n (pc' := 1) (i := 0) rfl rfl dX7_common_0 rfl ?_
  refine e_if_ge (tgt := 9) (pc' := 4) dX7_common_1 (by decide) rfl h (fun h => ?_) (fun h => ?_)
  · refine e_iload_n (pc' := 10) (i := 0) rfl rfl dX7_common_9 rfl ?_
    exact e_weak (lc' := [none, some (.int a1), none, none, none]) (gle_n (gle_s (gle_n (gle_n (gle_n gle_0))))) (w_X7_common_p10 I A L  _ _ _ h)
  · refine e_iload_n (pc' := 5) (i := 0) rfl rfl dX7_common_4 rfl ?_
    refine e_ineg (pc' := 6) dX7_common_5 rfl ?_
    refine e_goto (tgt := 10) dX7_common_6 (by decide) ?_
    exact e_weak (lc' := [none, some (.int a1), none, none, none]) (gle_n (gle_s (gle_n (gle_n (gle_n gle_0))))) (w_X7_common_p10 I A L  _ _ _ h)
set_option maxHeartbeats 4000000 in
set_option maxRecDepth 100000 in
theorem w_X7_meeting_p257  : ∀ (x5 : Int32) (x6 : Int32) (x7 : Int32) (x9 : Int32) (x10 : Int32) (x11 : Int32) (I : Nat → Int32) (A : Nat → Nat → Int32) (L : Nat → Int64) (t : gS), f_X7_meeting_p257 x5 x6 x7 x9 x10 x11 I A L = some t → Ev 70 RX7 cX7_meeting 13 none 2 257 [some (.ref 59), none, none, none, none, some (.int x5), some (.int x6), some (.int x7), none, some (.int x9), some (.int x10), some (.int x11), none] [] I A L (none, t) := by
  intro x5 x6 x7 x9 x10 x11 I A L t h
  unfold f_X7_meeting_p257 at h
  refine e_aload_n (pc' := 258) (i := 0) rfl rfl dX7_meeting_257 rfl ?_
  refine e_getR (a := 59) (b := 65) (k0 := 10) (pc' := 261) dX7_meeting_258 rfl rfl (Nat.le_of_ble_eq_true rfl) (Nat.le_of_ble_eq_true rfl) rfl mw_804 rfl ?_
  refine e_iconst (v := 5) (pc' := 262) (by decide) dX7_meeting_261 rfl ?_
  refine e_iload (pc' := 264) (i := 11) rfl dX7_meeting_262 rfl ?_
  refine e_imul (pc' := 265) dX7_meeting_264 rfl ?_
  refine e_iload (pc' := 267) (i := 5) rfl dX7_meeting_265 rfl ?_
  refine e_iast (n := 320) (pc' := 268) dX7_meeting_267 rfl rfl (Nat.le_of_ble_eq_true rfl) h (fun h => ?_)
  refine e_ltA h (fun A1 h => ?_)
  refine e_aload_n (pc' := 269) (i := 0) rfl rfl dX7_meeting_268 rfl ?_
  refine e_getR (a := 59) (b := 65) (k0 := 10) (pc' := 272) dX7_meeting_269 rfl rfl (Nat.le_of_ble_eq_true rfl) (Nat.le_of_ble_eq_true rfl) rfl mw_804 rfl ?_
  refine e_iconst (v := 5) (pc' := 273) (by decide) dX7_meeting_272 rfl ?_
  refine e_iload (pc' := 275) (i := 11) rfl dX7_meeting_273 rfl ?_
  refine e_imul (pc' := 276) dX7_meeting_275 rfl ?_
  refine e_iconst (v := 1) (pc' := 277) (by decide) dX7_meeting_276 rfl ?_
  refine e_iadd (pc' := 278) dX7_meeting_277 rfl ?_
  refine e_iload (pc' := 280) (i := 6) rfl dX7_meeting_278 rfl ?_
  refine e_iast (n := 320) (pc' := 281) dX7_meeting_280 rfl rfl (Nat.le_of_ble_eq_true rfl) h (fun h => ?_)
  refine e_ltA h (fun A2 h => ?_)
  refine e_aload_n (pc' := 282) (i := 0) rfl rfl dX7_meeting_281 rfl ?_
  refine e_getR (a := 59) (b := 65) (k0 := 10) (pc' := 285) dX7_meeting_282 rfl rfl (Nat.le_of_ble_eq_true rfl) (Nat.le_of_ble_eq_true rfl) rfl mw_804 rfl ?_
  refine e_iconst (v := 5) (pc' := 286) (by decide) dX7_meeting_285 rfl ?_
  refine e_iload (pc' := 288) (i := 11) rfl dX7_meeting_286 rfl ?_
  refine e_imul (pc' := 289) dX7_meeting_288 rfl ?_
  refine e_iconst (v := 2) (pc' := 290) (by decide) dX7_meeting_289 rfl ?_
  refine e_iadd (pc' := 291) dX7_meeting_290 rfl ?_
  refine e_iload (pc' := 293) (i := 7) rfl dX7_meeting_291 rfl ?_
  refine e_iast (n := 320) (pc' := 294) dX7_meeting_293 rfl rfl (Nat.le_of_ble_eq_true rfl) h (fun h => ?_)
  refine e_ltA h (fun A3 h => ?_)
  refine e_aload_n (pc' := 295) (i := 0) rfl rfl dX7_meeting_294 rfl ?_
  refine e_getR (a := 59) (b := 65) (k0 := 10) (pc' := 298) dX7_meeting_295 rfl rfl (Nat.le_of_ble_eq_true rfl) (Nat.le_of_ble_eq_true rfl) rfl mw_804 rfl ?_
  refine e_iconst (v := 5) (pc' := 299) (by decide) dX7_meeting_298 rfl ?_
  refine e_iload (pc' := 301) (i := 11) rfl dX7_meeting_299 rfl ?_
  refine e_imul (pc' := 302) dX7_meeting_301 rfl ?_
  refine e_iconst (v := 3) (pc' := 303) (by decide) dX7_meeting_302 rfl ?_
  refine e_iadd (pc' := 304) dX7_meeting_303 rfl ?_
  refine e_iload (pc' := 306) (i := 9) rfl dX7_meeting_304 rfl ?_
  refine e_iast (n := 320) (pc' := 307) dX7_meeting_306 rfl rfl (Nat.le_of_ble_eq_true rfl) h (fun h => ?_)
  refine e_ltA h (fun A4 h => ?_)
  refine e_aload_n (pc' := 308) (i := 0) rfl rfl dX7_meeting_307 rfl ?_
  refine e_getR (a := 59) (b := 65) (k0 := 10) (pc' := 311) dX7_meeting_308 rfl rfl (Nat.le_of_ble_eq_true rfl) (Nat.le_of_ble_eq_true rfl) rfl mw_804 rfl ?_
  refine e_iconst (v := 5) (pc' := 312) (by decide) dX7_meeting_311 rfl ?_
  refine e_iload (pc' := 314) (i := 11) rfl dX7_meeting_312 rfl ?_
  refine e_imul (pc' := 315) dX7_meeting_314 rfl ?_
  refine e_iconst (v := 4) (pc' := 316) (by decide) dX7_meeting_315 rfl ?_
  refine e_iadd (pc' := 317) dX7_meeting_316 rfl ?_
  refine e_iload (pc' := 319) (i := 10) rfl dX7_meeting_317 rfl ?_
  refine e_iast (n := 320) (pc' := 320) dX7_meeting_319 rfl rfl (Nat.le_of_ble_eq_true rfl) h (fun h => ?_)
  refine e_ltA h (fun A5 h => ?_)
  refine e_aload_n (pc' := 321) (i := 0) rfl rfl dX7_meeting_320 rfl ?_
  refine e_dup (pc' := 322) rfl dX7_meeting_321 rfl ?_
  refine e_getI (a := 59) (n := 955) (k0 := 11) (pc' := 325) dX7_meeting_322 rfl rfl (Nat.le_of_ble_eq_true rfl) (Nat.le_of_ble_eq_true rfl) rfl mw_805 rfl ?_
  refine e_iconst (v := 1) (pc' := 326) (by decide) dX7_meeting_325 rfl ?_
  refine e_iadd (pc' := 327) dX7_meeting_326 rfl ?_
  refine e_putI (a := 59) (n := 955) (k0 := 11) (pc' := 330) dX7_meeting_327 rfl rfl (Nat.le_of_ble_eq_true rfl) (Nat.le_of_ble_eq_true rfl) rfl mw_805 rfl rfl g_pI rfl rfl ?_
  refine e_ltI h (fun I6 h => ?_)
  obtain rfl := g_re1 h
  exact e_vret dX7_meeting_330
set_option maxHeartbeats 4000000 in
set_option maxRecDepth 100000 in
theorem w_X7_meeting_p213  (k186 : Int32 → Int32 → Int32 → Int32 → Int32 → Int32 → (Nat → Int32) → (Nat → Nat → Int32) → (Nat → Int64) → Option gS) (hk186 : ∀ (x5 : Int32) (x6 : Int32) (x7 : Int32) (x9 : Int32) (x10 : Int32) (x11 : Int32) (I : Nat → Int32) (A : Nat → Nat → Int32) (L : Nat → Int64) (t : gS), k186 x5 x6 x7 x9 x10 x11 I A L = some t → Ev 70 RX7 cX7_meeting 13 none 2 186 [some (.ref 59), none, none, none, none, some (.int x5), some (.int x6), some (.int x7), none, some (.int x9), some (.int x10), some (.int x11), none] [] I A L (none, t)) : ∀ (n : Nat) (x5 : Int32) (x6 : Int32) (x7 : Int32) (x9 : Int32) (x10 : Int32) (x11 : Int32) (x12 : Int32) (I : Nat → Int32) (A : Nat → Nat → Int32) (L : Nat → Int64) (t : gS), f_X7_meeting_p213 k186 n x5 x6 x7 x9 x10 x11 x12 I A L = some t → Ev 70 RX7 cX7_meeting 13 none 2 213 [some (.ref 59), none, none, none, none, some (.int x5), some (.int x6), some (.int x7), none, some (.int x9), some (.int x10), some (.int x11), some (.int x12)] [] I A L (none, t) := by
  intro n
  induction n with
  | zero =>
    intro x5 x6 x7 x9 x10 x11 x12 I A L t h
    cases h
  | succ n ih =>
    intro x5 x6 x7 x9 x10 x11 x12 I A L t h
    rw [f_X7_meeting_p213] at h
    refine e_iload (pc' := 215) (i := 12) rfl dX7_meeting_213 rfl ?_
    refine e_iconst (v := 5) (pc' := 216) (by decide) dX7_meeting_215 rfl ?_
    refine e_icmp_ge (tgt := 251) (pc' := 219) dX7_meeting_216 (by decide) rfl h (fun h => ?_) (fun h => ?_)
    · refine e_iinc (pc' := 254) (v := (x11 + (-1))) (lc' := [some (.ref 59), none, none, none, none, some (.int x5), some (.int x6), some (.int x7), none, some (.int x9), some (.int x10), some (.int (x11 + (-1))), some (.int x12)]) dX7_meeting_251 rfl rfl rfl (Nat.le_of_ble_eq_true rfl) rfl rfl ?_
      refine e_goto (tgt := 186) dX7_meeting_254 (by decide) ?_
      exact e_weak (lc' := [some (.ref 59), none, none, none, none, some (.int x5), some (.int x6), some (.int x7), none, some (.int x9), some (.int x10), some (.int (x11 + (-1))), none]) (gle_s (gle_n (gle_n (gle_n (gle_n (gle_s (gle_s (gle_s (gle_n (gle_s (gle_s (gle_s (gle_n gle_0))))))))))))) (hk186 _ _ _ _ _ _ _ _ _ _ h)
    · refine e_aload_n (pc' := 220) (i := 0) rfl rfl dX7_meeting_219 rfl ?_
      refine e_getR (a := 59) (b := 65) (k0 := 10) (pc' := 223) dX7_meeting_220 rfl rfl (Nat.le_of_ble_eq_true rfl) (Nat.le_of_ble_eq_true rfl) rfl mw_804 rfl ?_
      refine e_iconst (v := 5) (pc' := 224) (by decide) dX7_meeting_223 rfl ?_
      refine e_iload (pc' := 226) (i := 11) rfl dX7_meeting_224 rfl ?_
      refine e_imul (pc' := 227) dX7_meeting_226 rfl ?_
      refine e_iload (pc' := 229) (i := 12) rfl dX7_meeting_227 rfl ?_
      refine e_iadd (pc' := 230) dX7_meeting_229 rfl ?_
      refine e_aload_n (pc' := 231) (i := 0) rfl rfl dX7_meeting_230 rfl ?_
      refine e_getR (a := 59) (b := 65) (k0 := 10) (pc' := 234) dX7_meeting_231 rfl rfl (Nat.le_of_ble_eq_true rfl) (Nat.le_of_ble_eq_true rfl) rfl mw_804 rfl ?_
      refine e_iconst (v := 5) (pc' := 235) (by decide) dX7_meeting_234 rfl ?_
      refine e_iload (pc' := 237) (i := 11) rfl dX7_meeting_235 rfl ?_
      refine e_imul (pc' := 238) dX7_meeting_237 rfl ?_
      refine e_iconst (v := 5) (pc' := 239) (by decide) dX7_meeting_238 rfl ?_
      refine e_isub (pc' := 240) dX7_meeting_239 rfl ?_
      refine e_iload (pc' := 242) (i := 12) rfl dX7_meeting_240 rfl ?_
      refine e_iadd (pc' := 243) dX7_meeting_242 rfl ?_
      refine e_iald (n := 320) (pc' := 244) dX7_meeting_243 rfl rfl (Nat.le_of_ble_eq_true rfl) h (fun h => ?_)
      refine e_iast (n := 320) (pc' := 245) dX7_meeting_244 rfl rfl (Nat.le_of_ble_eq_true rfl) h (fun h => ?_)
      refine e_ltA h (fun A1 h => ?_)
      refine e_iinc (pc' := 248) (v := (x12 + 1)) (lc' := [some (.ref 59), none, none, none, none, some (.int x5), some (.int x6), some (.int x7), none, some (.int x9), some (.int x10), some (.int x11), some (.int (x12 + 1))]) dX7_meeting_245 rfl rfl rfl (Nat.le_of_ble_eq_true rfl) rfl rfl ?_
      refine e_goto (tgt := 213) dX7_meeting_248 (by decide) ?_
      exact e_weak (lc' := [some (.ref 59), none, none, none, none, some (.int x5), some (.int x6), some (.int x7), none, some (.int x9), some (.int x10), some (.int x11), some (.int (x12 + 1))]) (gle_s (gle_n (gle_n (gle_n (gle_n (gle_s (gle_s (gle_s (gle_n (gle_s (gle_s (gle_s (gle_s gle_0))))))))))))) (ih _ _ _ _ _ _ _ _ _ _ _ h)
set_option maxHeartbeats 4000000 in
set_option maxRecDepth 100000 in
theorem w_X7_meeting_p186  : ∀ (n : Nat) (x5 : Int32) (x6 : Int32) (x7 : Int32) (x9 : Int32) (x10 : Int32) (x11 : Int32) (I : Nat → Int32) (A : Nat → Nat → Int32) (L : Nat → Int64) (t : gS), f_X7_meeting_p186 n x5 x6 x7 x9 x10 x11 I A L = some t → Ev 70 RX7 cX7_meeting 13 none 2 186 [some (.ref 59), none, none, none, none, some (.int x5), some (.int x6), some (.int x7), none, some (.int x9), some (.int x10), some (.int x11), none] [] I A L (none, t) := by
  intro n
  induction n with
  | zero =>
    intro x5 x6 x7 x9 x10 x11 I A L t h
    cases h
  | succ n ih =>
    intro x5 x6 x7 x9 x10 x11 I A L t h
    rw [f_X7_meeting_p186] at h
    refine e_iload (pc' := 188) (i := 11) rfl dX7_meeting_186 rfl ?_
    refine e_if_le (tgt := 257) (pc' := 191) dX7_meeting_188 (by decide) rfl h (fun h => ?_) (fun h => ?_)
    · exact e_weak (lc' := [some (.ref 59), none, none, none, none, some (.int x5), some (.int x6), some (.int x7), none, some (.int x9), some (.int x10), some (.int x11), none]) (gle_s (gle_n (gle_n (gle_n (gle_n (gle_s (gle_s (gle_s (gle_n (gle_s (gle_s (gle_s (gle_n gle_0))))))))))))) (w_X7_meeting_p257  _ _ _ _ _ _ _ _ _ _ h)
    · refine e_aload_n (pc' := 192) (i := 0) rfl rfl dX7_meeting_191 rfl ?_
      refine e_iload (pc' := 194) (i := 5) rfl dX7_meeting_192 rfl ?_
      refine e_iload (pc' := 196) (i := 6) rfl dX7_meeting_194 rfl ?_
      refine e_iload (pc' := 198) (i := 7) rfl dX7_meeting_196 rfl ?_
      refine e_iload (pc' := 200) (i := 9) rfl dX7_meeting_198 rfl ?_
      refine e_iload (pc' := 202) (i := 11) rfl dX7_meeting_200 rfl ?_
      refine e_iconst (v := 1) (pc' := 203) (by decide) dX7_meeting_202 rfl ?_
      refine e_isub (pc' := 204) dX7_meeting_203 rfl ?_
      obtain ⟨v2, hF1, h⟩ := g_bd_e h
      refine e_callV_i (pc' := 207) dX7_meeting_204 rfl mw_947 mv_X7_isAhead rfl (Nat.le_of_ble_eq_true rfl) (Nat.le_of_ble_eq_true rfl) rfl (Nat.le_of_ble_eq_true rfl) (Nat.le_of_ble_eq_true rfl) rfl (c_X7_isAhead _ _ _ _ _ hF1) rfl ?_
      refine e_if_eq (tgt := 257) (pc' := 210) dX7_meeting_207 (by decide) rfl h (fun h => ?_) (fun h => ?_)
      · exact e_weak (lc' := [some (.ref 59), none, none, none, none, some (.int x5), some (.int x6), some (.int x7), none, some (.int x9), some (.int x10), some (.int x11), none]) (gle_s (gle_n (gle_n (gle_n (gle_n (gle_s (gle_s (gle_s (gle_n (gle_s (gle_s (gle_s (gle_n gle_0))))))))))))) (w_X7_meeting_p257  _ _ _ _ _ _ _ _ _ _ h)
      · refine e_iconst (v := 0) (pc' := 211) (by decide) dX7_meeting_210 rfl ?_
        refine e_istore (pc' := 213) (i := 12) (lc' := [some (.ref 59), none, none, none, none, some (.int x5), some (.int x6), some (.int x7), none, some (.int x9), some (.int x10), some (.int x11), some (.int 0)]) dX7_meeting_211 rfl (Nat.le_of_ble_eq_true rfl) rfl rfl ?_
        exact e_weak (lc' := [some (.ref 59), none, none, none, none, some (.int x5), some (.int x6), some (.int x7), none, some (.int x9), some (.int x10), some (.int x11), some (.int 0)]) (gle_s (gle_n (gle_n (gle_n (gle_n (gle_s (gle_s (gle_s (gle_n (gle_s (gle_s (gle_s (gle_s gle_0))))))))))))) (w_X7_meeting_p213 _ ih _ _ _ _ _ _ _ _ _ _ _ _ h)
set_option maxHeartbeats 4000000 in
set_option maxRecDepth 100000 in
theorem w_X7_meeting_p98  : ∀ (n : Nat) (x5 : Int32) (x6 : Int32) (x7 : Int32) (x9 : Int32) (x10 : Int32) (x11 : Int32) (I : Nat → Int32) (A : Nat → Nat → Int32) (L : Nat → Int64) (t : gS), f_X7_meeting_p98 n x5 x6 x7 x9 x10 x11 I A L = some t → Ev 70 RX7 cX7_meeting 13 none 2 98 [some (.ref 59), none, none, none, none, some (.int x5), some (.int x6), some (.int x7), none, some (.int x9), some (.int x10), some (.int x11), none] [] I A L (none, t) := by
  intro n
  induction n with
  | zero =>
    intro x5 x6 x7 x9 x10 x11 I A L t h
    cases h
  | succ n ih =>
    intro x5 x6 x7 x9 x10 x11 I A L t h
    rw [f_X7_meeting_p98] at h
    refine e_iload (pc' := 100) (i := 11) rfl dX7_meeting_98 rfl ?_
    refine e_aload_n (pc' := 101) (i := 0) rfl rfl dX7_meeting_100 rfl ?_
    refine e_getR (a := 59) (b := 60) (k0 := 0) (pc' := 104) dX7_meeting_101 rfl rfl (Nat.le_of_ble_eq_true rfl) (Nat.le_of_ble_eq_true rfl) rfl mw_794 rfl ?_
    refine e_iconst (v := 0) (pc' := 105) (by decide) dX7_meeting_104 rfl ?_
    refine e_iald (n := 129) (pc' := 106) dX7_meeting_105 rfl rfl (Nat.le_of_ble_eq_true rfl) h (fun h => ?_)
    refine e_icmp_ge (tgt := 164) (pc' := 109) dX7_meeting_106 (by decide) rfl h (fun h => ?_) (fun h => ?_)
    · refine e_aload_n (pc' := 165) (i := 0) rfl rfl dX7_meeting_164 rfl ?_
      refine e_iload (pc' := 167) (i := 5) rfl dX7_meeting_165 rfl ?_
      refine e_iload (pc' := 169) (i := 6) rfl dX7_meeting_167 rfl ?_
      refine e_iload (pc' := 171) (i := 7) rfl dX7_meeting_169 rfl ?_
      refine e_iload (pc' := 173) (i := 9) rfl dX7_meeting_171 rfl ?_
      obtain ⟨v2, hF1, h⟩ := g_bd_e h
      refine e_callV_i (pc' := 176) dX7_meeting_173 rfl mw_943 mv_X7_isCorner rfl (Nat.le_of_ble_eq_true rfl) (Nat.le_of_ble_eq_true rfl) rfl (Nat.le_of_ble_eq_true rfl) (Nat.le_of_ble_eq_true rfl) rfl (c_X7_isCorner _ _ _ _ hF1) rfl ?_
      refine e_if_eq (tgt := 180) (pc' := 179) dX7_meeting_176 (by decide) rfl h (fun h => ?_) (fun h => ?_)
      · refine e_aload_n (pc' := 181) (i := 0) rfl rfl dX7_meeting_180 rfl ?_
        refine e_getI (a := 59) (n := 955) (k0 := 11) (pc' := 184) dX7_meeting_181 rfl rfl (Nat.le_of_ble_eq_true rfl) (Nat.le_of_ble_eq_true rfl) rfl mw_805 rfl ?_
        refine e_istore (pc' := 186) (i := 11) (lc' := [some (.ref 59), none, none, none, none, some (.int x5), some (.int x6), some (.int x7), none, some (.int x9), some (.int x10), some (.int (I 955)), none]) dX7_meeting_184 rfl (Nat.le_of_ble_eq_true rfl) rfl rfl ?_
        exact e_weak (lc' := [some (.ref 59), none, none, none, none, some (.int x5), some (.int x6), some (.int x7), none, some (.int x9), some (.int x10), some (.int (I 955)), none]) (gle_s (gle_n (gle_n (gle_n (gle_n (gle_s (gle_s (gle_s (gle_n (gle_s (gle_s (gle_s (gle_n gle_0))))))))))))) (w_X7_meeting_p186  _ _ _ _ _ _ _ _ _ _ _ h)
      · obtain rfl := g_re1 h
        exact e_vret dX7_meeting_179
    · refine e_aload_n (pc' := 110) (i := 0) rfl rfl dX7_meeting_109 rfl ?_
      refine e_iload (pc' := 112) (i := 11) rfl dX7_meeting_110 rfl ?_
      refine e_iload (pc' := 114) (i := 5) rfl dX7_meeting_112 rfl ?_
      refine e_iload (pc' := 116) (i := 6) rfl dX7_meeting_114 rfl ?_
      refine e_iload (pc' := 118) (i := 7) rfl dX7_meeting_116 rfl ?_
      obtain ⟨v4, hF3, h⟩ := g_bd_e h
      refine e_callV_i (pc' := 121) dX7_meeting_118 rfl mw_939 mv_X7_far rfl (Nat.le_of_ble_eq_true rfl) (Nat.le_of_ble_eq_true rfl) rfl (Nat.le_of_ble_eq_true rfl) (Nat.le_of_ble_eq_true rfl) rfl (c_X7_far _ _ _ _ hF3) rfl ?_
      refine e_aload_n (pc' := 122) (i := 0) rfl rfl dX7_meeting_121 rfl ?_
      refine e_iload (pc' := 124) (i := 11) rfl dX7_meeting_122 rfl ?_
      refine e_iconst (v := 3) (pc' := 125) (by decide) dX7_meeting_124 rfl ?_
      obtain ⟨v6, hF5, h⟩ := g_bd_e h
      refine e_callV_i (pc' := 128) dX7_meeting_125 rfl mw_894 mv_X7_get rfl (Nat.le_of_ble_eq_true rfl) (Nat.le_of_ble_eq_true rfl) rfl (Nat.le_of_ble_eq_true rfl) (Nat.le_of_ble_eq_true rfl) rfl (c_X7_get _ _ hF5) rfl ?_
      refine e_iload (pc' := 130) (i := 9) rfl dX7_meeting_128 rfl ?_
      refine e_imul (pc' := 131) dX7_meeting_130 rfl ?_
      refine e_isub (pc' := 132) dX7_meeting_131 rfl ?_
      refine e_lt h (fun v7 h => ?_)
      refine e_istore (pc' := 134) (i := 12) (lc' := [some (.ref 59), none, none, none, none, some (.int x5), some (.int x6), some (.int x7), none, some (.int x9), some (.int x10), some (.int x11), some (.int v7)]) dX7_meeting_132 rfl (Nat.le_of_ble_eq_true rfl) rfl rfl ?_
      refine e_iload (pc' := 136) (i := 12) rfl dX7_meeting_134 rfl ?_
      refine e_if_le (tgt := 140) (pc' := 139) dX7_meeting_136 (by decide) rfl h (fun h => ?_) (fun h => ?_)
      · refine e_iload (pc' := 142) (i := 10) rfl dX7_meeting_140 rfl ?_
        refine e_iload (pc' := 144) (i := 12) rfl dX7_meeting_142 rfl ?_
        refine e_if_ne (tgt := 154) (pc' := 147) dX7_meeting_144 (by decide) rfl h (fun h => ?_) (fun h => ?_)
        · refine e_iconst (v := 0) (pc' := 155) (by decide) dX7_meeting_154 rfl ?_
          refine e_ior (pc' := 156) dX7_meeting_155 rfl ?_
          refine e_istore (pc' := 158) (i := 10) (lc' := [some (.ref 59), none, none, none, none, some (.int x5), some (.int x6), some (.int x7), none, some (.int x9), some (.int (x10 ||| 0)), some (.int x11), some (.int v7)]) dX7_meeting_156 rfl (Nat.le_of_ble_eq_true rfl) rfl rfl ?_
          refine e_iinc (pc' := 161) (v := (x11 + 1)) (lc' := [some (.ref 59), none, none, none, none, some (.int x5), some (.int x6), some (.int x7), none, some (.int x9), some (.int (x10 ||| 0)), some (.int (x11 + 1)), some (.int v7)]) dX7_meeting_158 rfl rfl rfl (Nat.le_of_ble_eq_true rfl) rfl rfl ?_
          refine e_goto (tgt := 98) dX7_meeting_161 (by decide) ?_
          exact e_weak (lc' := [some (.ref 59), none, none, none, none, some (.int x5), some (.int x6), some (.int x7), none, some (.int x9), some (.int (x10 ||| 0)), some (.int (x11 + 1)), none]) (gle_s (gle_n (gle_n (gle_n (gle_n (gle_s (gle_s (gle_s (gle_n (gle_s (gle_s (gle_s (gle_n gle_0))))))))))))) (ih _ _ _ _ _ _ _ _ _ _ h)
        · refine e_iconst (v := 1) (pc' := 148) (by decide) dX7_meeting_147 rfl ?_
          refine e_iload (pc' := 150) (i := 11) rfl dX7_meeting_148 rfl ?_
          refine e_ishl (pc' := 151) dX7_meeting_150 rfl ?_
          refine e_goto (tgt := 155) dX7_meeting_151 (by decide) ?_
          refine e_ior (pc' := 156) dX7_meeting_155 rfl ?_
          refine e_lt h (fun v8 h => ?_)
          refine e_istore (pc' := 158) (i := 10) (lc' := [some (.ref 59), none, none, none, none, some (.int x5), some (.int x6), some (.int x7), none, some (.int x9), some (.int v8), some (.int x11), some (.int v7)]) dX7_meeting_156 rfl (Nat.le_of_ble_eq_true rfl) rfl rfl ?_
          refine e_iinc (pc' := 161) (v := (x11 + 1)) (lc' := [some (.ref 59), none, none, none, none, some (.int x5), some (.int x6), some (.int x7), none, some (.int x9), some (.int v8), some (.int (x11 + 1)), some (.int v7)]) dX7_meeting_158 rfl rfl rfl (Nat.le_of_ble_eq_true rfl) rfl rfl ?_
          refine e_goto (tgt := 98) dX7_meeting_161 (by decide) ?_
          exact e_weak (lc' := [some (.ref 59), none, none, none, none, some (.int x5), some (.int x6), some (.int x7), none, some (.int x9), some (.int v8), some (.int (x11 + 1)), none]) (gle_s (gle_n (gle_n (gle_n (gle_n (gle_s (gle_s (gle_s (gle_n (gle_s (gle_s (gle_s (gle_n gle_0))))))))))))) (ih _ _ _ _ _ _ _ _ _ _ h)
      · obtain rfl := g_re1 h
        exact e_vret dX7_meeting_139
set_option maxHeartbeats 4000000 in
set_option maxRecDepth 100000 in
theorem w_X7_meeting_p62  : ∀ (x4 : Int32) (x5 : Int32) (x6 : Int32) (x7 : Int32) (s0 : Int32) (I : Nat → Int32) (A : Nat → Nat → Int32) (L : Nat → Int64) (t : gS), f_X7_meeting_p62 x4 x5 x6 x7 s0 I A L = some t → Ev 70 RX7 cX7_meeting 13 none 2 62 [some (.ref 59), none, none, none, some (.int x4), some (.int x5), some (.int x6), some (.int x7), none, none, none, none, none] [.int s0] I A L (none, t) := by
  intro x4 x5 x6 x7 s0 I A L t h
  unfold f_X7_meeting_p62 at h
  refine e_istore (pc' := 64) (i := 8) (lc' := [some (.ref 59), none, none, none, some (.int x4), some (.int x5), some (.int x6), some (.int x7), some (.int s0), none, none, none, none]) dX7_meeting_62 rfl (Nat.le_of_ble_eq_true rfl) rfl rfl ?_
  refine e_iload (pc' := 66) (i := 5) rfl dX7_meeting_64 rfl ?_
  refine e_iload (pc' := 68) (i := 8) rfl dX7_meeting_66 rfl ?_
  obtain ⟨hz1, h⟩ := g_dv_e h
  refine e_idiv (pc' := 69) hz1 dX7_meeting_68 rfl ?_
  refine e_istore (pc' := 71) (i := 5) (lc' := [some (.ref 59), none, none, none, some (.int x4), some (.int (x5 / s0)), some (.int x6), some (.int x7), some (.int s0), none, none, none, none]) dX7_meeting_69 rfl (Nat.le_of_ble_eq_true rfl) rfl rfl ?_
  refine e_iload (pc' := 73) (i := 6) rfl dX7_meeting_71 rfl ?_
  refine e_iload (pc' := 75) (i := 8) rfl dX7_meeting_73 rfl ?_
  obtain ⟨hz2, h⟩ := g_dv_e h
  refine e_idiv (pc' := 76) hz2 dX7_meeting_75 rfl ?_
  refine e_istore (pc' := 78) (i := 6) (lc' := [some (.ref 59), none, none, none, some (.int x4), some (.int (x5 / s0)), some (.int (x6 / s0)), some (.int x7), some (.int s0), none, none, none, none]) dX7_meeting_76 rfl (Nat.le_of_ble_eq_true rfl) rfl rfl ?_
  refine e_iload (pc' := 80) (i := 7) rfl dX7_meeting_78 rfl ?_
  refine e_iload (pc' := 82) (i := 8) rfl dX7_meeting_80 rfl ?_
  obtain ⟨hz3, h⟩ := g_dv_e h
  refine e_idiv (pc' := 83) hz3 dX7_meeting_82 rfl ?_
  refine e_istore (pc' := 85) (i := 7) (lc' := [some (.ref 59), none, none, none, some (.int x4), some (.int (x5 / s0)), some (.int (x6 / s0)), some (.int (x7 / s0)), some (.int s0), none, none, none, none]) dX7_meeting_83 rfl (Nat.le_of_ble_eq_true rfl) rfl rfl ?_
  refine e_iload (pc' := 87) (i := 4) rfl dX7_meeting_85 rfl ?_
  refine e_iload (pc' := 89) (i := 8) rfl dX7_meeting_87 rfl ?_
  obtain ⟨hz4, h⟩ := g_dv_e h
  refine e_idiv (pc' := 90) hz4 dX7_meeting_89 rfl ?_
  refine e_istore (pc' := 92) (i := 9) (lc' := [some (.ref 59), none, none, none, some (.int x4), some (.int (x5 / s0)), some (.int (x6 / s0)), some (.int (x7 / s0)), some (.int s0), some (.int (x4 / s0)), none, none, none]) dX7_meeting_90 rfl (Nat.le_of_ble_eq_true rfl) rfl rfl ?_
  refine e_iconst (v := 0) (pc' := 93) (by decide) dX7_meeting_92 rfl ?_
  refine e_istore (pc' := 95) (i := 10) (lc' := [some (.ref 59), none, none, none, some (.int x4), some (.int (x5 / s0)), some (.int (x6 / s0)), some (.int (x7 / s0)), some (.int s0), some (.int (x4 / s0)), some (.int 0), none, none]) dX7_meeting_93 rfl (Nat.le_of_ble_eq_true rfl) rfl rfl ?_
  refine e_iconst (v := 0) (pc' := 96) (by decide) dX7_meeting_95 rfl ?_
  refine e_istore (pc' := 98) (i := 11) (lc' := [some (.ref 59), none, none, none, some (.int x4), some (.int (x5 / s0)), some (.int (x6 / s0)), some (.int (x7 / s0)), some (.int s0), some (.int (x4 / s0)), some (.int 0), some (.int 0), none]) dX7_meeting_96 rfl (Nat.le_of_ble_eq_true rfl) rfl rfl ?_
  exact e_weak (lc' := [some (.ref 59), none, none, none, none, some (.int (x5 / s0)), some (.int (x6 / s0)), some (.int (x7 / s0)), none, some (.int (x4 / s0)), some (.int 0), some (.int 0), none]) (gle_s (gle_n (gle_n (gle_n (gle_n (gle_s (gle_s (gle_s (gle_n (gle_s (gle_s (gle_s (gle_n gle_0))))))))))))) (w_X7_meeting_p98  _ _ _ _ _ _ _ _ _ _ _ h)
set_option maxHeartbeats 4000000 in
set_option maxRecDepth 100000 in
theorem c_X7_meeting (a0 : Int32) (a1 : Int32) (a2 : Int32) (a3 : Int32) {I : Nat → Int32} {A : Nat → Nat → Int32} {L : Nat → Int64} {I' : Nat → Int32} {A' : Nat → Nat → Int32} {L' : Nat → Int64} (h : f_X7_meeting  a0 a1 a2 a3 I A L = some (I', A', L')) : GM 70 yX7_meeting cX7_meeting 13 none 2 [.ref 59, .int a0, .int a1, .int a2, .int a3] I A L (none, (I', A', L')) := by
  refine gm_of (n := 8) (lc := [some (.ref 59), some (.int a0), some (.int a1), some (.int a2), some (.int a3), none, none, none, none, none, none, none, none]) (by decide +kernel) rfl (fun _ => Nat.le_of_ble_eq_true rfl) ?_
  change Ev 70 RX7 cX7_meeting 13 none 2 0 [some (.ref 59), some (.int a0), some (.int a1), some (.int a2), some (.int a3), none, none, none, none, none, none, none, none] [] I A L _
  unfold f_X7_meeting at h
  refine e_aload_n (pc' := 1) (i := 0) rfl rfl dX7_meeting_0 rfl ?_
  refine e_iload_n (pc' := 2) (i := 1) rfl rfl dX7_meeting_1 rfl ?_
  refine e_iload_n (pc' := 3) (i := 2) rfl rfl dX7_meeting_2 rfl ?_
  refine e_iload_n (pc' := 4) (i := 3) rfl rfl dX7_meeting_3 rfl ?_
  refine e_iconst (v := 0) (pc' := 5) (by decide) dX7_meeting_4 rfl ?_
  obtain ⟨v2, hF1, h⟩ := g_bd_e h
  refine e_callV_i (pc' := 8) dX7_meeting_5 rfl mw_928 mv_X7_determinant rfl (Nat.le_of_ble_eq_true rfl) (Nat.le_of_ble_eq_true rfl) rfl (Nat.le_of_ble_eq_true rfl) (Nat.le_of_ble_eq_true rfl) rfl (c_X7_determinant _ _ _ _ hF1) rfl ?_
  refine e_istore (pc' := 10) (i := 5) (lc' := [some (.ref 59), some (.int a0), some (.int a1), some (.int a2), some (.int a3), some (.int v2), none, none, none, none, none, none, none]) dX7_meeting_8 rfl (Nat.le_of_ble_eq_true rfl) rfl rfl ?_
  refine e_aload_n (pc' := 11) (i := 0) rfl rfl dX7_meeting_10 rfl ?_
  refine e_iload_n (pc' := 12) (i := 1) rfl rfl dX7_meeting_11 rfl ?_
  refine e_iload_n (pc' := 13) (i := 2) rfl rfl dX7_meeting_12 rfl ?_
  refine e_iload_n (pc' := 14) (i := 3) rfl rfl dX7_meeting_13 rfl ?_
  refine e_iconst (v := 1) (pc' := 15) (by decide) dX7_meeting_14 rfl ?_
  obtain ⟨v4, hF3, h⟩ := g_bd_e h
  refine e_callV_i (pc' := 18) dX7_meeting_15 rfl mw_928 mv_X7_determinant rfl (Nat.le_of_ble_eq_true rfl) (Nat.le_of_ble_eq_true rfl) rfl (Nat.le_of_ble_eq_true rfl) (Nat.le_of_ble_eq_true rfl) rfl (c_X7_determinant _ _ _ _ hF3) rfl ?_
  refine e_istore (pc' := 20) (i := 6) (lc' := [some (.ref 59), some (.int a0), some (.int a1), some (.int a2), some (.int a3), some (.int v2), some (.int v4), none, none, none, none, none, none]) dX7_meeting_18 rfl (Nat.le_of_ble_eq_true rfl) rfl rfl ?_
  refine e_aload_n (pc' := 21) (i := 0) rfl rfl dX7_meeting_20 rfl ?_
  refine e_iload_n (pc' := 22) (i := 1) rfl rfl dX7_meeting_21 rfl ?_
  refine e_iload_n (pc' := 23) (i := 2) rfl rfl dX7_meeting_22 rfl ?_
  refine e_iload_n (pc' := 24) (i := 3) rfl rfl dX7_meeting_23 rfl ?_
  refine e_iconst (v := 2) (pc' := 25) (by decide) dX7_meeting_24 rfl ?_
  obtain ⟨v6, hF5, h⟩ := g_bd_e h
  refine e_callV_i (pc' := 28) dX7_meeting_25 rfl mw_928 mv_X7_determinant rfl (Nat.le_of_ble_eq_true rfl) (Nat.le_of_ble_eq_true rfl) rfl (Nat.le_of_ble_eq_true rfl) (Nat.le_of_ble_eq_true rfl) rfl (c_X7_determinant _ _ _ _ hF5) rfl ?_
  refine e_istore (pc' := 30) (i := 7) (lc' := [some (.ref 59), some (.int a0), some (.int a1), some (.int a2), some (.int a3), some (.int v2), some (.int v4), some (.int v6), none, none, none, none, none]) dX7_meeting_28 rfl (Nat.le_of_ble_eq_true rfl) rfl rfl ?_
  refine e_iload (pc' := 32) (i := 5) rfl dX7_meeting_30 rfl ?_
  refine e_iload (pc' := 34) (i := 6) rfl dX7_meeting_32 rfl ?_
  obtain ⟨v8, hF7, h⟩ := g_bd_e h
  refine e_callS_i (pc' := 37) dX7_meeting_34 rfl mw_936 ms_X7_common rfl (Nat.le_of_ble_eq_true rfl) (Nat.le_of_ble_eq_true rfl) (c_X7_common _ _ hF7) rfl ?_
  refine e_iload (pc' := 39) (i := 7) rfl dX7_meeting_37 rfl ?_
  refine e_iload (pc' := 41) (i := 4) rfl dX7_meeting_39 rfl ?_
  obtain ⟨v10, hF9, h⟩ := g_bd_e h
  refine e_callS_i (pc' := 44) dX7_meeting_41 rfl mw_936 ms_X7_common rfl (Nat.le_of_ble_eq_true rfl) (Nat.le_of_ble_eq_true rfl) (c_X7_common _ _ hF9) rfl ?_
  obtain ⟨v12, hF11, h⟩ := g_bd_e h
  refine e_callS_i (pc' := 47) dX7_meeting_44 rfl mw_936 ms_X7_common rfl (Nat.le_of_ble_eq_true rfl) (Nat.le_of_ble_eq_true rfl) (c_X7_common _ _ hF11) rfl ?_
  refine e_istore (pc' := 49) (i := 8) (lc' := [some (.ref 59), some (.int a0), some (.int a1), some (.int a2), some (.int a3), some (.int v2), some (.int v4), some (.int v6), some (.int v12), none, none, none, none]) dX7_meeting_47 rfl (Nat.le_of_ble_eq_true rfl) rfl rfl ?_
  refine e_iload (pc' := 51) (i := 4) rfl dX7_meeting_49 rfl ?_
  refine e_if_ge (tgt := 60) (pc' := 54) dX7_meeting_51 (by decide) rfl h (fun h => ?_) (fun h => ?_)
  · refine e_iload (pc' := 62) (i := 8) rfl dX7_meeting_60 rfl ?_
    exact e_weak (lc' := [some (.ref 59), none, none, none, some (.int a3), some (.int v2), some (.int v4), some (.int v6), none, none, none, none, none]) (gle_s (gle_n (gle_n (gle_n (gle_s (gle_s (gle_s (gle_s (gle_n (gle_n (gle_n (gle_n (gle_n gle_0))))))))))))) (w_X7_meeting_p62  _ _ _ _ _ _ _ _ _ h)
  · refine e_iload (pc' := 56) (i := 8) rfl dX7_meeting_54 rfl ?_
    refine e_ineg (pc' := 57) dX7_meeting_56 rfl ?_
    refine e_goto (tgt := 62) dX7_meeting_57 (by decide) ?_
    exact e_weak (lc' := [some (.ref 59), none, none, none, some (.int a3), some (.int v2), some (.int v4), some (.int v6), none, none, none, none, none]) (gle_s (gle_n (gle_n (gle_n (gle_s (gle_s (gle_s (gle_s (gle_n (gle_n (gle_n (gle_n (gle_n gle_0))))))))))))) (w_X7_meeting_p62  _ _ _ _ _ _ _ _ _ h)
