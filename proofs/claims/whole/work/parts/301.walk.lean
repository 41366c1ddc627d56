set_option maxHeartbeats 4000000 in
set_option maxRecDepth 100000 in
theorem w_X0_noteTurned_p29  : ∀ (n : Nat) (x1 : Int32) (x3 : Int32) (x4 : Int32) (x5 : Int32) (x6 : Int32) (I : Nat → Int32) (A : Nat → Nat → Int32) (L : Nat → Int64) (t : gS), f_X0_noteTurned_p29 n x1 x3 x4 x5 x6 I A L = some t → Ev 70 RX0 cX0_noteTurned 7 none 1 29 [some (.ref 54), some (.int x1), none, some (.int x3), some (.int x4), some (.int x5), some (.int x6)] [] I A L (none, t) := by
  intro n
  induction n with
  | zero =>
    intro x1 x3 x4 x5 x6 I A L t h
    cases h
  | succ n ih =>
    intro x1 x3 x4 x5 x6 I A L t h
    rw [f_X0_noteTurned_p29] at h
    refine e_iload (pc' := 31) (i := 6) rfl dX0_noteTurned_29 rfl ?_
    refine e_bipush (v := 6) (pc' := 33) (by decide) dX0_noteTurned_31 rfl ?_
    refine e_icmp_ge (tgt := 89) (pc' := 36) dX0_noteTurned_33 (by decide) rfl h (fun h => ?_) (fun h => ?_)
    · obtain rfl := g_re1 h
      exact e_vret dX0_noteTurned_89
    · refine e_iload_n (pc' := 37) (i := 1) rfl rfl dX0_noteTurned_36 rfl ?_
      refine e_iload (pc' := 39) (i := 6) rfl dX0_noteTurned_37 rfl ?_
      refine e_ishr (pc' := 40) dX0_noteTurned_39 rfl ?_
      refine e_iconst (v := 1) (pc' := 41) (by decide) dX0_noteTurned_40 rfl ?_
      refine e_iand (pc' := 42) dX0_noteTurned_41 rfl ?_
      refine e_iconst (v := 1) (pc' := 43) (by decide) dX0_noteTurned_42 rfl ?_
      refine e_icmp_ne (tgt := 83) (pc' := 46) dX0_noteTurned_43 (by decide) rfl h (fun h => ?_) (fun h => ?_)
      · refine e_iinc (pc' := 86) (v := (x6 + 1)) (lc' := [some (.ref 54), some (.int x1), none, some (.int x3), some (.int x4), some (.int x5), some (.int (x6 + 1))]) dX0_noteTurned_83 rfl rfl rfl (Nat.le_of_ble_eq_true rfl) rfl rfl ?_
        refine e_goto (tgt := 29) dX0_noteTurned_86 (by decide) ?_
        exact e_weak (lc' := [some (.ref 54), some (.int x1), none, some (.int x3), some (.int x4), some (.int x5), some (.int (x6 + 1))]) (gle_s (gle_s (gle_n (gle_s (gle_s (gle_s (gle_s gle_0))))))) (ih _ _ _ _ _ _ _ _ _ h)
      · refine e_aload_n (pc' := 47) (i := 0) rfl rfl dX0_noteTurned_46 rfl ?_
        refine e_iload (pc' := 49) (i := 6) rfl dX0_noteTurned_47 rfl ?_
        refine e_iconst (v := 0) (pc' := 50) (by decide) dX0_noteTurned_49 rfl ?_
        refine e_iload_n (pc' := 51) (i := 3) rfl rfl dX0_noteTurned_50 rfl ?_
        refine e_iload (pc' := 53) (i := 4) rfl dX0_noteTurned_51 rfl ?_
        refine e_iload (pc' := 55) (i := 5) rfl dX0_noteTurned_53 rfl ?_
        obtain ⟨v2, hF1, h⟩ := g_bd_e h
        refine e_callSN_i (pc' := 58) dX0_noteTurned_55 rfl mw_450 ms_X6_turned rfl (Nat.le_of_ble_eq_true rfl) (Nat.le_of_ble_eq_true rfl) (c_X6_turned _ _ _ _ _ hF1) rfl ?_
        refine e_iload (pc' := 60) (i := 6) rfl dX0_noteTurned_58 rfl ?_
        refine e_iconst (v := 1) (pc' := 61) (by decide) dX0_noteTurned_60 rfl ?_
        refine e_iload_n (pc' := 62) (i := 3) rfl rfl dX0_noteTurned_61 rfl ?_
        refine e_iload (pc' := 64) (i := 4) rfl dX0_noteTurned_62 rfl ?_
        refine e_iload (pc' := 66) (i := 5) rfl dX0_noteTurned_64 rfl ?_
        obtain ⟨v4, hF3, h⟩ := g_bd_e h
        refine e_callSN_i (pc' := 69) dX0_noteTurned_66 rfl mw_450 ms_X6_turned rfl (Nat.le_of_ble_eq_true rfl) (Nat.le_of_ble_eq_true rfl) (c_X6_turned _ _ _ _ _ hF3) rfl ?_
        refine e_iload (pc' := 71) (i := 6) rfl dX0_noteTurned_69 rfl ?_
        refine e_iconst (v := 2) (pc' := 72) (by decide) dX0_noteTurned_71 rfl ?_
        refine e_iload_n (pc' := 73) (i := 3) rfl rfl dX0_noteTurned_72 rfl ?_
        refine e_iload (pc' := 75) (i := 4) rfl dX0_noteTurned_73 rfl ?_
        refine e_iload (pc' := 77) (i := 5) rfl dX0_noteTurned_75 rfl ?_
        obtain ⟨v6, hF5, h⟩ := g_bd_e h
        refine e_callSN_i (pc' := 80) dX0_noteTurned_77 rfl mw_450 ms_X6_turned rfl (Nat.le_of_ble_eq_true rfl) (Nat.le_of_ble_eq_true rfl) (c_X6_turned _ _ _ _ _ hF5) rfl ?_
        obtain ⟨I8, A9, L10, hF7, h⟩ := g_b1_e h
        refine e_callV_v (pc' := 83) dX0_noteTurned_80 rfl mw_442 mv_X0_note rfl (Nat.le_of_ble_eq_true rfl) (Nat.le_of_ble_eq_true rfl) rfl (Nat.le_of_ble_eq_true rfl) (Nat.le_of_ble_eq_true rfl) rfl (c_X0_note _ _ _ hF7) rfl ?_
        refine e_iinc (pc' := 86) (v := (x6 + 1)) (lc' := [some (.ref 54), some (.int x1), none, some (.int x3), some (.int x4), some (.int x5), some (.int (x6 + 1))]) dX0_noteTurned_83 rfl rfl rfl (Nat.le_of_ble_eq_true rfl) rfl rfl ?_
        refine e_goto (tgt := 29) dX0_noteTurned_86 (by decide) ?_
        exact e_weak (lc' := [some (.ref 54), some (.int x1), none, some (.int x3), some (.int x4), some (.int x5), some (.int (x6 + 1))]) (gle_s (gle_s (gle_n (gle_s (gle_s (gle_s (gle_s gle_0))))))) (ih _ _ _ _ _ _ _ _ _ h)
set_option maxHeartbeats 4000000 in
set_option maxRecDepth 100000 in
theorem c_X0_noteTurned (a0 : Int32) (a1 : Int32) {I : Nat → Int32} {A : Nat → Nat → Int32} {L : Nat → Int64} {I' : Nat → Int32} {A' : Nat → Nat → Int32} {L' : Nat → Int64} (h : f_X0_noteTurned  a0 a1 I A L = some (I', A', L')) : GM 70 yX0_noteTurned cX0_noteTurned 7 none 1 [.ref 54, .int a0, .int a1] I A L (none, (I', A', L')) := by
  refine gm_of (n := 4) (lc := [some (.ref 54), some (.int a0), some (.int a1), none, none, none, none]) (by decide +kernel) rfl (fun _ => Nat.le_of_ble_eq_true rfl) ?_
  change Ev 70 RX0 cX0_noteTurned 7 none 1 0 [some (.ref 54), some (.int a0), some (.int a1), none, none, none, none] [] I A L _
  unfold f_X0_noteTurned at h
  refine e_iload_n (pc' := 1) (i := 2) rfl rfl dX0_noteTurned_0 rfl ?_
  refine e_bipush (v := 100) (pc' := 3) (by decide) dX0_noteTurned_1 rfl ?_
  refine e_idiv (pc' := 4) (by decide) dX0_noteTurned_3 rfl ?_
  refine e_iconst (v := 3) (pc' := 5) (by decide) dX0_noteTurned_4 rfl ?_
  refine e_isub (pc' := 6) dX0_noteTurned_5 rfl ?_
  refine e_lt h (fun v1 h => ?_)
  refine e_istore_n (pc' := 7) (i := 3) (lc' := [some (.ref 54), some (.int a0), some (.int a1), some (.int v1), none, none, none]) rfl dX0_noteTurned_6 rfl (Nat.le_of_ble_eq_true rfl) rfl rfl ?_
  refine e_iload_n (pc' := 8) (i := 2) rfl rfl dX0_noteTurned_7 rfl ?_
  refine e_bipush (v := 10) (pc' := 10) (by decide) dX0_noteTurned_8 rfl ?_
  refine e_idiv (pc' := 11) (by decide) dX0_noteTurned_10 rfl ?_
  refine e_bipush (v := 10) (pc' := 13) (by decide) dX0_noteTurned_11 rfl ?_
  refine e_irem (pc' := 14) (by decide) dX0_noteTurned_13 rfl ?_
  refine e_iconst (v := 3) (pc' := 15) (by decide) dX0_noteTurned_14 rfl ?_
  refine e_isub (pc' := 16) dX0_noteTurned_15 rfl ?_
  refine e_lt h (fun v2 h => ?_)
  refine e_istore (pc' := 18) (i := 4) (lc' := [some (.ref 54), some (.int a0), some (.int a1), some (.int v1), some (.int v2), none, none]) dX0_noteTurned_16 rfl (Nat.le_of_ble_eq_true rfl) rfl rfl ?_
  refine e_iload_n (pc' := 19) (i := 2) rfl rfl dX0_noteTurned_18 rfl ?_
  refine e_bipush (v := 10) (pc' := 21) (by decide) dX0_noteTurned_19 rfl ?_
  refine e_irem (pc' := 22) (by decide) dX0_noteTurned_21 rfl ?_
  refine e_iconst (v := 3) (pc' := 23) (by decide) dX0_noteTurned_22 rfl ?_
  refine e_isub (pc' := 24) dX0_noteTurned_23 rfl ?_
  refine e_lt h (fun v3 h => ?_)
  refine e_istore (pc' := 26) (i := 5) (lc' := [some (.ref 54), some (.int a0), some (.int a1), some (.int v1), some (.int v2), some (.int v3), none]) dX0_noteTurned_24 rfl (Nat.le_of_ble_eq_true rfl) rfl rfl ?_
  refine e_iconst (v := 0) (pc' := 27) (by decide) dX0_noteTurned_26 rfl ?_
  refine e_istore (pc' := 29) (i := 6) (lc' := [some (.ref 54), some (.int a0), some (.int a1), some (.int v1), some (.int v2), some (.int v3), some (.int 0)]) dX0_noteTurned_27 rfl (Nat.le_of_ble_eq_true rfl) rfl rfl ?_
  exact e_weak (lc' := [some (.ref 54), some (.int a0), none, some (.int v1), some (.int v2), some (.int v3), some (.int 0)]) (gle_s (gle_s (gle_n (gle_s (gle_s (gle_s (gle_s gle_0))))))) (w_X0_noteTurned_p29  _ _ _ _ _ _ _ _ _ _ h)
set_option maxHeartbeats 4000000 in
set_option maxRecDepth 100000 in
theorem w_J7_fill_031fb_55_p5  : ∀ (n : Nat) (x1 : Int32) (x2 : Int32) (x3 : Int32) (I : Nat → Int32) (A : Nat → Nat → Int32) (L : Nat → Int64) (t : gS), f_J7_fill_031fb_p5 55 n x1 x2 x3 I A L = some t → Ev 70 RJ7 cJ7_fill_031fb 4 none 0 5 [some (.ref 55), some (.int x1), some (.int x2), some (.int x3)] [] I A L (none, t) := by
  intro n
  induction n with
  | zero =>
    intro x1 x2 x3 I A L t h
    cases h
  | succ n ih =>
    intro x1 x2 x3 I A L t h
    rw [f_J7_fill_031fb_p5] at h
    refine e_iload_n (pc' := 6) (i := 2) rfl rfl dJ7_fill_031fb_5 rfl ?_
    refine e_iload_n (pc' := 7) (i := 3) rfl rfl dJ7_fill_031fb_6 rfl ?_
    refine e_icmp_ge (tgt := 20) (pc' := 10) dJ7_fill_031fb_7 (by decide) rfl h (fun h => ?_) (fun h => ?_)
    · obtain rfl := g_re1 h
      exact e_vret dJ7_fill_031fb_20
    · refine e_aload_n (pc' := 11) (i := 0) rfl rfl dJ7_fill_031fb_10 rfl ?_
      refine e_iload_n (pc' := 12) (i := 2) rfl rfl dJ7_fill_031fb_11 rfl ?_
      refine e_iload_n (pc' := 13) (i := 1) rfl rfl dJ7_fill_031fb_12 rfl ?_
      refine e_bast (n := 667) (pc' := 14) dJ7_fill_031fb_13 rfl rfl (Nat.le_of_ble_eq_true rfl) h (fun h => ?_)
      refine e_ltA h (fun A1 h => ?_)
      refine e_iinc (pc' := 17) (v := (x2 + 1)) (lc' := [some (.ref 55), some (.int x1), some (.int (x2 + 1)), some (.int x3)]) dJ7_fill_031fb_14 rfl rfl rfl (Nat.le_of_ble_eq_true rfl) rfl rfl ?_
      refine e_goto (tgt := 5) dJ7_fill_031fb_17 (by decide) ?_
      exact e_weak (lc' := [some (.ref 55), some (.int x1), some (.int (x2 + 1)), some (.int x3)]) (gle_s (gle_s (gle_s (gle_s gle_0)))) (ih _ _ _ _ _ _ _ h)
set_option maxHeartbeats 4000000 in
set_option maxRecDepth 100000 in
theorem c_J7_fill_031fb_55 (a0 : Int32) {I : Nat → Int32} {A : Nat → Nat → Int32} {L : Nat → Int64} {I' : Nat → Int32} {A' : Nat → Nat → Int32} {L' : Nat → Int64} (h : f_J7_fill_031fb 55 a0 I A L = some (I', A', L')) : GM 70 yJ7_fill_031fb cJ7_fill_031fb 4 none 0 [.ref 55, .int a0] I A L (none, (I', A', L')) := by
  refine gm_of (n := 2) (lc := [some (.ref 55), some (.int a0), none, none]) (by decide +kernel) rfl (fun _ => Nat.le_of_ble_eq_true rfl) ?_
  change Ev 70 RJ7 cJ7_fill_031fb 4 none 0 0 [some (.ref 55), some (.int a0), none, none] [] I A L _
  unfold f_J7_fill_031fb at h
  refine e_iconst (v := 0) (pc' := 1) (by decide) dJ7_fill_031fb_0 rfl ?_
  refine e_istore_n (pc' := 2) (i := 2) (lc' := [some (.ref 55), some (.int a0), some (.int 0), none]) rfl dJ7_fill_031fb_1 rfl (Nat.le_of_ble_eq_true rfl) rfl rfl ?_
  refine e_aload_n (pc' := 3) (i := 0) rfl rfl dJ7_fill_031fb_2 rfl ?_
  refine e_blen (v := 667) (pc' := 4) dJ7_fill_031fb_3 rfl rfl (Nat.le_of_ble_eq_true rfl) (by decide) ?_
  refine e_istore_n (pc' := 5) (i := 3) (lc' := [some (.ref 55), some (.int a0), some (.int 0), some (.int 667)]) rfl dJ7_fill_031fb_4 rfl (Nat.le_of_ble_eq_true rfl) rfl rfl ?_
  exact e_weak (lc' := [some (.ref 55), some (.int a0), some (.int 0), some (.int 667)]) (gle_s (gle_s (gle_s (gle_s gle_0)))) (w_J7_fill_031fb_55_p5  _ _ _ _ _ _ _ _ h)
set_option maxHeartbeats 4000000 in
set_option maxRecDepth 100000 in
theorem w_X0_gather_p58  : ∀ (I : Nat → Int32) (A : Nat → Nat → Int32) (L : Nat → Int64) (t : gS), f_X0_gather_p58 I A L = some t → Ev 70 RX0 cX0_gather 6 none 2 58 [some (.ref 54), none, none, none, none, none] [] I A L (none, t) := by
  intro  I A L t h
  unfold f_X0_gather_p58 at h
  refine e_aload_n (pc' := 59) (i := 0) rfl rfl dX0_gather_58 rfl ?_
  obtain ⟨I2, A3, L4, hF1, h⟩ := g_b1_e h
  refine e_callV_v (pc' := 62) dX0_gather_59 rfl mw_457 mv_X0_putInOrder rfl (Nat.le_of_ble_eq_true rfl) (Nat.le_of_ble_eq_true rfl) rfl (Nat.le_of_ble_eq_true rfl) (Nat.le_of_ble_eq_true rfl) rfl (c_X0_putInOrder hF1) rfl ?_
  obtain rfl := g_re1 h
  exact e_vret dX0_gather_62
set_option maxHeartbeats 4000000 in
set_option maxRecDepth 100000 in
theorem w_X0_gather_p24  : ∀ (n : Nat) (x1 : Int32) (x5 : Int32) (I : Nat → Int32) (A : Nat → Nat → Int32) (L : Nat → Int64) (t : gS), f_X0_gather_p24 n x1 x5 I A L = some t → Ev 70 RX0 cX0_gather 6 none 2 24 [some (.ref 54), some (.int x1), none, none, none, some (.int x5)] [] I A L (none, t) := by
  intro n
  induction n with
  | zero =>
    intro x1 x5 I A L t h
    cases h
  | succ n ih =>
    intro x1 x5 I A L t h
    rw [f_X0_gather_p24] at h
    refine e_iload (pc' := 26) (i := 5) rfl dX0_gather_24 rfl ?_
    refine e_aload_n (pc' := 27) (i := 0) rfl rfl dX0_gather_26 rfl ?_
    refine e_getI (a := 54) (n := 866) (k0 := 2) (pc' := 30) dX0_gather_27 rfl rfl (Nat.le_of_ble_eq_true rfl) (Nat.le_of_ble_eq_true rfl) rfl mw_278 rfl ?_
    refine e_icmp_ge (tgt := 58) (pc' := 33) dX0_gather_30 (by decide) rfl h (fun h => ?_) (fun h => ?_)
    · exact e_weak (lc' := [some (.ref 54), none, none, none, none, none]) (gle_s (gle_n (gle_n (gle_n (gle_n (gle_n gle_0)))))) (w_X0_gather_p58  _ _ _ _ h)
    · refine e_iload (pc' := 35) (i := 5) rfl dX0_gather_33 rfl ?_
      refine e_bipush (v := 48) (pc' := 37) (by decide) dX0_gather_35 rfl ?_
      refine e_icmp_ge (tgt := 58) (pc' := 40) dX0_gather_37 (by decide) rfl h (fun h => ?_) (fun h => ?_)
      · exact e_weak (lc' := [some (.ref 54), none, none, none, none, none]) (gle_s (gle_n (gle_n (gle_n (gle_n (gle_n gle_0)))))) (w_X0_gather_p58  _ _ _ _ h)
      · refine e_aload_n (pc' := 41) (i := 0) rfl rfl dX0_gather_40 rfl ?_
        refine e_iload_n (pc' := 42) (i := 1) rfl rfl dX0_gather_41 rfl ?_
        refine e_aload_n (pc' := 43) (i := 0) rfl rfl dX0_gather_42 rfl ?_
        refine e_getR (a := 54) (b := 56) (k0 := 1) (pc' := 46) dX0_gather_43 rfl rfl (Nat.le_of_ble_eq_true rfl) (Nat.le_of_ble_eq_true rfl) rfl mw_275 rfl ?_
        refine e_iload (pc' := 48) (i := 5) rfl dX0_gather_46 rfl ?_
        refine e_iald (n := 48) (pc' := 49) dX0_gather_48 rfl rfl (Nat.le_of_ble_eq_true rfl) h (fun h => ?_)
        obtain ⟨I2, A3, L4, hF1, h⟩ := g_b1_e h
        refine e_callV_v (pc' := 52) dX0_gather_49 rfl mw_446 mv_X0_noteTurned rfl (Nat.le_of_ble_eq_true rfl) (Nat.le_of_ble_eq_true rfl) rfl (Nat.le_of_ble_eq_true rfl) (Nat.le_of_ble_eq_true rfl) rfl (c_X0_noteTurned _ _ hF1) rfl ?_
        refine e_iinc (pc' := 55) (v := (x5 + 1)) (lc' := [some (.ref 54), some (.int x1), none, none, none, some (.int (x5 + 1))]) dX0_gather_52 rfl rfl rfl (Nat.le_of_ble_eq_true rfl) rfl rfl ?_
        refine e_goto (tgt := 24) dX0_gather_55 (by decide) ?_
        exact e_weak (lc' := [some (.ref 54), some (.int x1), none, none, none, some (.int (x5 + 1))]) (gle_s (gle_s (gle_n (gle_n (gle_n (gle_s gle_0)))))) (ih _ _ _ _ _ _ h)
set_option maxHeartbeats 4000000 in
set_option maxRecDepth 100000 in
theorem c_X0_gather (a0 : Int32) (a1 : Int32) (a2 : Int32) (a3 : Int32) {I : Nat → Int32} {A : Nat → Nat → Int32} {L : Nat → Int64} {I' : Nat → Int32} {A' : Nat → Nat → Int32} {L' : Nat → Int64} (h : f_X0_gather  a0 a1 a2 a3 I A L = some (I', A', L')) : GM 70 yX0_gather cX0_gather 6 none 2 [.ref 54, .int a0, .int a1, .int a2, .int a3] I A L (none, (I', A', L')) := by
  refine gm_of (n := 1) (lc := [some (.ref 54), some (.int a0), some (.int a1), some (.int a2), some (.int a3), none]) (by decide +kernel) rfl (fun _ => Nat.le_of_ble_eq_true rfl) ?_
  change Ev 70 RX0 cX0_gather 6 none 2 0 [some (.ref 54), some (.int a0), some (.int a1), some (.int a2), some (.int a3), none] [] I A L _
  unfold f_X0_gather at h
  refine e_aload_n (pc' := 1) (i := 0) rfl rfl dX0_gather_0 rfl ?_
  refine e_getR (a := 54) (b := 55) (k0 := 0) (pc' := 4) dX0_gather_1 rfl rfl (Nat.le_of_ble_eq_true rfl) (Nat.le_of_ble_eq_true rfl) rfl mw_274 rfl ?_
  refine e_iconst (v := 0) (pc' := 5) (by decide) dX0_gather_4 rfl ?_
  obtain ⟨I2, A3, L4, hF1, h⟩ := g_b1_e h
  refine e_callS_v (pc' := 8) dX0_gather_5 rfl mw_439 ms_J7_fill_031fb rfl (Nat.le_of_ble_eq_true rfl) (Nat.le_of_ble_eq_true rfl) (c_J7_fill_031fb_55 _ hF1) rfl ?_
  refine e_aload_n (pc' := 9) (i := 0) rfl rfl dX0_gather_8 rfl ?_
  refine e_iconst (v := 0) (pc' := 10) (by decide) dX0_gather_9 rfl ?_
  refine e_putI (a := 54) (n := 866) (k0 := 2) (pc' := 13) dX0_gather_10 rfl rfl (Nat.le_of_ble_eq_true rfl) (Nat.le_of_ble_eq_true rfl) rfl mw_278 rfl rfl g_pI rfl rfl ?_
  refine e_ltI h (fun I5 h => ?_)
  refine e_aload_n (pc' := 14) (i := 0) rfl rfl dX0_gather_13 rfl ?_
  refine e_iload_n (pc' := 15) (i := 2) rfl rfl dX0_gather_14 rfl ?_
  refine e_iload_n (pc' := 16) (i := 3) rfl rfl dX0_gather_15 rfl ?_
  refine e_iload (pc' := 18) (i := 4) rfl dX0_gather_16 rfl ?_
  obtain ⟨I7, A8, L9, hF6, h⟩ := g_b1_e h
  refine e_callV_v (pc' := 21) dX0_gather_18 rfl mw_442 mv_X0_note rfl (Nat.le_of_ble_eq_true rfl) (Nat.le_of_ble_eq_true rfl) rfl (Nat.le_of_ble_eq_true rfl) (Nat.le_of_ble_eq_true rfl) rfl (c_X0_note _ _ _ hF6) rfl ?_
  refine e_iconst (v := 0) (pc' := 22) (by decide) dX0_gather_21 rfl ?_
  refine e_istore (pc' := 24) (i := 5) (lc' := [some (.ref 54), some (.int a0), some (.int a1), some (.int a2), some (.int a3), some (.int 0)]) dX0_gather_22 rfl (Nat.le_of_ble_eq_true rfl) rfl rfl ?_
  exact e_weak (lc' := [some (.ref 54), some (.int a0), none, none, none, some (.int 0)]) (gle_s (gle_s (gle_n (gle_n (gle_n (gle_s gle_0)))))) (w_X0_gather_p24  _ _ _ _ _ _ _ h)
set_option maxHeartbeats 4000000 in
set_option maxRecDepth 100000 in
theorem w_X2_putFamily_1_54_p2  : ∀ (n : Nat) (x2 : Int32) (x3 : Int32) (I : Nat → Int32) (A : Nat → Nat → Int32) (L : Nat → Int64) (t : gS), f_X2_putFamily_p2 1 54 n x2 x3 I A L = some t → Ev 70 RX2 cX2_putFamily 5 none 1 2 [some (.ref 1), some (.ref 54), some (.int x2), some (.int x3), none] [] I A L (none, t) := by
  intro n
  induction n with
  | zero =>
    intro x2 x3 I A L t h
    cases h
  | succ n ih =>
    intro x2 x3 I A L t h
    rw [f_X2_putFamily_p2] at h
    refine e_iload_n (pc' := 3) (i := 3) rfl rfl dX2_putFamily_2 rfl ?_
    refine e_aload_n (pc' := 4) (i := 1) rfl rfl dX2_putFamily_3 rfl ?_
    refine e_getIN (a := 54) (n := 866) (k0 := 2) (pc' := 7) dX2_putFamily_4 rfl rfl (Nat.le_of_ble_eq_true rfl) (Nat.le_of_ble_eq_true rfl) rfl mw_280 rfl ?_
    refine e_icmp_ge (tgt := 53) (pc' := 10) dX2_putFamily_7 (by decide) rfl h (fun h => ?_) (fun h => ?_)
    · obtain rfl := g_re1 h
      exact e_vret dX2_putFamily_53
    · refine e_aload_n (pc' := 11) (i := 1) rfl rfl dX2_putFamily_10 rfl ?_
      refine e_getRN (a := 54) (b := 56) (k0 := 1) (pc' := 14) dX2_putFamily_11 rfl rfl (Nat.le_of_ble_eq_true rfl) (Nat.le_of_ble_eq_true rfl) rfl mw_276 rfl ?_
      refine e_iload_n (pc' := 15) (i := 3) rfl rfl dX2_putFamily_14 rfl ?_
      refine e_iald (n := 48) (pc' := 16) dX2_putFamily_15 rfl rfl (Nat.le_of_ble_eq_true rfl) h (fun h => ?_)
      refine e_lt h (fun v1 h => ?_)
      refine e_istore (pc' := 18) (i := 4) (lc' := [some (.ref 1), some (.ref 54), some (.int x2), some (.int x3), some (.int v1)]) dX2_putFamily_16 rfl (Nat.le_of_ble_eq_true rfl) rfl rfl ?_
      refine e_aload_n (pc' := 19) (i := 0) rfl rfl dX2_putFamily_18 rfl ?_
      refine e_iload (pc' := 21) (i := 4) rfl dX2_putFamily_19 rfl ?_
      refine e_bipush (v := 100) (pc' := 23) (by decide) dX2_putFamily_21 rfl ?_
      refine e_idiv (pc' := 24) (by decide) dX2_putFamily_23 rfl ?_
      refine e_iconst (v := 3) (pc' := 25) (by decide) dX2_putFamily_24 rfl ?_
      refine e_isub (pc' := 26) dX2_putFamily_25 rfl ?_
      refine e_iload (pc' := 28) (i := 4) rfl dX2_putFamily_26 rfl ?_
      refine e_bipush (v := 10) (pc' := 30) (by decide) dX2_putFamily_28 rfl ?_
      refine e_idiv (pc' := 31) (by decide) dX2_putFamily_30 rfl ?_
      refine e_bipush (v := 10) (pc' := 33) (by decide) dX2_putFamily_31 rfl ?_
      refine e_irem (pc' := 34) (by decide) dX2_putFamily_33 rfl ?_
      refine e_iconst (v := 3) (pc' := 35) (by decide) dX2_putFamily_34 rfl ?_
      refine e_isub (pc' := 36) dX2_putFamily_35 rfl ?_
      refine e_iload (pc' := 38) (i := 4) rfl dX2_putFamily_36 rfl ?_
      refine e_bipush (v := 10) (pc' := 40) (by decide) dX2_putFamily_38 rfl ?_
      refine e_irem (pc' := 41) (by decide) dX2_putFamily_40 rfl ?_
      refine e_iconst (v := 3) (pc' := 42) (by decide) dX2_putFamily_41 rfl ?_
      refine e_isub (pc' := 43) dX2_putFamily_42 rfl ?_
      refine e_iload_n (pc' := 44) (i := 2) rfl rfl dX2_putFamily_43 rfl ?_
      obtain ⟨I3, A4, L5, hF2, h⟩ := g_b1_e h
      refine e_callV_v (pc' := 47) dX2_putFamily_44 rfl mw_331 mv_X2_put rfl (Nat.le_of_ble_eq_true rfl) (Nat.le_of_ble_eq_true rfl) rfl (Nat.le_of_ble_eq_true rfl) (Nat.le_of_ble_eq_true rfl) rfl (c_X2_put_1 _ _ _ _ hF2) rfl ?_
      refine e_iinc (pc' := 50) (v := (x3 + 1)) (lc' := [some (.ref 1), some (.ref 54), some (.int x2), some (.int (x3 + 1)), some (.int v1)]) dX2_putFamily_47 rfl rfl rfl (Nat.le_of_ble_eq_true rfl) rfl rfl ?_
      refine e_goto (tgt := 2) dX2_putFamily_50 (by decide) ?_
      exact e_weak (lc' := [some (.ref 1), some (.ref 54), some (.int x2), some (.int (x3 + 1)), none]) (gle_s (gle_s (gle_s (gle_s (gle_n gle_0))))) (ih _ _ _ _ _ _ h)
set_option maxHeartbeats 4000000 in
set_option maxRecDepth 100000 in
theorem c_X2_putFamily_1_54 (a0 : Int32) {I : Nat → Int32} {A : Nat → Nat → Int32} {L : Nat → Int64} {I' : Nat → Int32} {A' : Nat → Nat → Int32} {L' : Nat → Int64} (h : f_X2_putFamily 1 54 a0 I A L = some (I', A', L')) : GM 70 yX2_putFamily cX2_putFamily 5 none 1 [.ref 1, .ref 54, .int a0] I A L (none, (I', A', L')) := by
  refine gm_of (n := 2) (lc := [some (.ref 1), some (.ref 54), some (.int a0), none, none]) (by decide +kernel) rfl (fun _ => Nat.le_of_ble_eq_true rfl) ?_
  change Ev 70 RX2 cX2_putFamily 5 none 1 0 [some (.ref 1), some (.ref 54), some (.int a0), none, none] [] I A L _
  unfold f_X2_putFamily at h
  refine e_iconst (v := 0) (pc' := 1) (by decide) dX2_putFamily_0 rfl ?_
  refine e_istore_n (pc' := 2) (i := 3) (lc' := [some (.ref 1), some (.ref 54), some (.int a0), some (.int 0), none]) rfl dX2_putFamily_1 rfl (Nat.le_of_ble_eq_true rfl) rfl rfl ?_
  exact e_weak (lc' := [some (.ref 1), some (.ref 54), some (.int a0), some (.int 0), none]) (gle_s (gle_s (gle_s (gle_s (gle_n gle_0))))) (w_X2_putFamily_1_54_p2  _ _ _ _ _ _ _ h)
set_option maxHeartbeats 4000000 in
set_option maxRecDepth 100000 in
theorem w_X6_family_p25  : ∀ (I : Nat → Int32) (A : Nat → Nat → Int32) (L : Nat → Int64) (t : (Int32 × gS)), f_X6_family_p25 I A L = some t → Ev 70 RX6 cX6_family 6 (some .int) 4 25 [some (.ref 0), none, none, none, none, none] [] I A L (some (.int t.1), t.2) := by
  intro  I A L t h
  unfold f_X6_family_p25 at h
  refine e_aload_n (pc' := 26) (i := 0) rfl rfl dX6_family_25 rfl ?_
  refine e_bipush (v := (-2)) (pc' := 28) (by decide) dX6_family_26 rfl ?_
  obtain ⟨v5, I2, A3, L4, hF1, h⟩ := g_b2_e h
  refine e_callV_i (pc' := 31) dX6_family_28 rfl mw_397 mv_X6_refuseBad rfl (Nat.le_of_ble_eq_true rfl) (Nat.le_of_ble_eq_true rfl) rfl (Nat.le_of_ble_eq_true rfl) (Nat.le_of_ble_eq_true rfl) rfl (c_X6_refuseBad _ hF1) rfl ?_
  obtain rfl := g_re1 h
  exact e_iret dX6_family_31
set_option maxHeartbeats 4000000 in
set_option maxRecDepth 100000 in
theorem c_X6_family (a0 : Int32) (a1 : Int32) (a2 : Int32) (a3 : Int32) (a4 : Int32) {I : Nat → Int32} {A : Nat → Nat → Int32} {L : Nat → Int64} {t : Int32} {I' : Nat → Int32} {A' : Nat → Nat → Int32} {L' : Nat → Int64} (h : f_X6_family  a0 a1 a2 a3 a4 I A L = some (t, I', A', L')) : GM 70 yX6_family cX6_family 6 (some .int) 4 [.ref 0, .int a0, .int a1, .int a2, .int a3, .int a4] I A L (some (.int t), (I', A', L')) := by
  refine gm_of (n := 0) (lc := [some (.ref 0), some (.int a0), some (.int a1), some (.int a2), some (.int a3), some (.int a4)]) (by decide +kernel) rfl (fun _ => Nat.le_of_ble_eq_true rfl) ?_
  change Ev 70 RX6 cX6_family 6 (some .int) 4 0 [some (.ref 0), some (.int a0), some (.int a1), some (.int a2), some (.int a3), some (.int a4)] [] I A L _
  unfold f_X6_family at h
  refine e_iload_n (pc' := 1) (i := 1) rfl rfl dX6_family_0 rfl ?_
  obtain ⟨v2, hF1, h⟩ := g_bd_e h
  refine e_callS_i (pc' := 4) dX6_family_1 rfl mw_432 ms_X6_isTurnSet rfl (Nat.le_of_ble_eq_true rfl) (Nat.le_of_ble_eq_true rfl) (c_X6_isTurnSet _ hF1) rfl ?_
  refine e_if_eq (tgt := 25) (pc' := 7) dX6_family_4 (by decide) rfl h (fun h => ?_) (fun h => ?_)
  · exact e_weak (lc' := [some (.ref 0), none, none, none, none, none]) (gle_s (gle_n (gle_n (gle_n (gle_n (gle_n gle_0)))))) (w_X6_family_p25  _ _ _ _ h)
  · refine e_iload_n (pc' := 8) (i := 2) rfl rfl dX6_family_7 rfl ?_
    refine e_iload_n (pc' := 9) (i := 3) rfl rfl dX6_family_8 rfl ?_
    refine e_iload (pc' := 11) (i := 4) rfl dX6_family_9 rfl ?_
    obtain ⟨v4, hF3, h⟩ := g_bd_e h
    refine e_callS_i (pc' := 14) dX6_family_11 rfl mw_388 ms_X6_isSign rfl (Nat.le_of_ble_eq_true rfl) (Nat.le_of_ble_eq_true rfl) (c_X6_isSign _ _ _ hF3) rfl ?_
    refine e_if_eq (tgt := 25) (pc' := 17) dX6_family_14 (by decide) rfl h (fun h => ?_) (fun h => ?_)
    · exact e_weak (lc' := [some (.ref 0), none, none, none, none, none]) (gle_s (gle_n (gle_n (gle_n (gle_n (gle_n gle_0)))))) (w_X6_family_p25  _ _ _ _ h)
    · refine e_iload (pc' := 19) (i := 5) rfl dX6_family_17 rfl ?_
      obtain ⟨v6, hF5, h⟩ := g_bd_e h
      refine e_callS_i (pc' := 22) dX6_family_19 rfl mw_394 ms_X6_isOff rfl (Nat.le_of_ble_eq_true rfl) (Nat.le_of_ble_eq_true rfl) (c_X6_isOff _ hF5) rfl ?_
      refine e_if_ne (tgt := 32) (pc' := 25) dX6_family_22 (by decide) rfl h (fun h => ?_) (fun h => ?_)
      · refine e_aload_n (pc' := 33) (i := 0) rfl rfl dX6_family_32 rfl ?_
        refine e_getR (a := 0) (b := 54) (k0 := 5) (pc' := 36) dX6_family_33 rfl rfl (Nat.le_of_ble_eq_true rfl) (Nat.le_of_ble_eq_true rfl) rfl mw_340 rfl ?_
        refine e_iload_n (pc' := 37) (i := 1) rfl rfl dX6_family_36 rfl ?_
        refine e_iload_n (pc' := 38) (i := 2) rfl rfl dX6_family_37 rfl ?_
        refine e_iload_n (pc' := 39) (i := 3) rfl rfl dX6_family_38 rfl ?_
        refine e_iload (pc' := 41) (i := 4) rfl dX6_family_39 rfl ?_
        obtain ⟨I8, A9, L10, hF7, h⟩ := g_b1_e h
        refine e_callVN_v (pc' := 44) dX6_family_41 rfl mw_435 mv_X0_gather rfl (Nat.le_of_ble_eq_true rfl) (Nat.le_of_ble_eq_true rfl) rfl (Nat.le_of_ble_eq_true rfl) (Nat.le_of_ble_eq_true rfl) rfl (c_X0_gather _ _ _ _ hF7) rfl ?_
        refine e_aload_n (pc' := 45) (i := 0) rfl rfl dX6_family_44 rfl ?_
        refine e_getR (a := 0) (b := 1) (k0 := 0) (pc' := 48) dX6_family_45 rfl rfl (Nat.le_of_ble_eq_true rfl) (Nat.le_of_ble_eq_true rfl) rfl mw_335 rfl ?_
        refine e_getIN (a := 1) (n := 20) (k0 := 4) (pc' := 51) dX6_family_48 rfl rfl (Nat.le_of_ble_eq_true rfl) (Nat.le_of_ble_eq_true rfl) rfl mw_144 rfl ?_
        refine e_aload_n (pc' := 52) (i := 0) rfl rfl dX6_family_51 rfl ?_
        refine e_getR (a := 0) (b := 54) (k0 := 5) (pc' := 55) dX6_family_52 rfl rfl (Nat.le_of_ble_eq_true rfl) (Nat.le_of_ble_eq_true rfl) rfl mw_340 rfl ?_
        refine e_getIN (a := 54) (n := 866) (k0 := 2) (pc' := 58) dX6_family_55 rfl rfl (Nat.le_of_ble_eq_true rfl) (Nat.le_of_ble_eq_true rfl) rfl mw_279 rfl ?_
        refine e_iadd (pc' := 59) dX6_family_58 rfl ?_
        refine e_bipush (v := 32) (pc' := 61) (by decide) dX6_family_59 rfl ?_
        refine e_icmp_le (tgt := 69) (pc' := 64) dX6_family_61 (by decide) rfl h (fun h => ?_) (fun h => ?_)
        · refine e_aload_n (pc' := 70) (i := 0) rfl rfl dX6_family_69 rfl ?_
          obtain ⟨I12, A13, L14, hF11, h⟩ := g_b1_e h
          refine e_callV_v (pc' := 73) dX6_family_70 rfl mw_405 mv_X6_leaveState rfl (Nat.le_of_ble_eq_true rfl) (Nat.le_of_ble_eq_true rfl) rfl (Nat.le_of_ble_eq_true rfl) (Nat.le_of_ble_eq_true rfl) rfl (c_X6_leaveState hF11) rfl ?_
          refine e_aload_n (pc' := 74) (i := 0) rfl rfl dX6_family_73 rfl ?_
          refine e_getR (a := 0) (b := 1) (k0 := 0) (pc' := 77) dX6_family_74 rfl rfl (Nat.le_of_ble_eq_true rfl) (Nat.le_of_ble_eq_true rfl) rfl mw_335 rfl ?_
          refine e_aload_n (pc' := 78) (i := 0) rfl rfl dX6_family_77 rfl ?_
          refine e_getR (a := 0) (b := 54) (k0 := 5) (pc' := 81) dX6_family_78 rfl rfl (Nat.le_of_ble_eq_true rfl) (Nat.le_of_ble_eq_true rfl) rfl mw_340 rfl ?_
          refine e_iload (pc' := 83) (i := 5) rfl dX6_family_81 rfl ?_
          obtain ⟨I16, A17, L18, hF15, h⟩ := g_b1_e h
          refine e_callVN_v (pc' := 86) dX6_family_83 rfl mw_461 mv_X2_putFamily rfl (Nat.le_of_ble_eq_true rfl) (Nat.le_of_ble_eq_true rfl) rfl (Nat.le_of_ble_eq_true rfl) (Nat.le_of_ble_eq_true rfl) rfl (c_X2_putFamily_1_54 _ hF15) rfl ?_
          refine e_aload_n (pc' := 87) (i := 0) rfl rfl dX6_family_86 rfl ?_
          refine e_getR (a := 0) (b := 54) (k0 := 5) (pc' := 90) dX6_family_87 rfl rfl (Nat.le_of_ble_eq_true rfl) (Nat.le_of_ble_eq_true rfl) rfl mw_340 rfl ?_
          refine e_getIN (a := 54) (n := 866) (k0 := 2) (pc' := 93) dX6_family_90 rfl rfl (Nat.le_of_ble_eq_true rfl) (Nat.le_of_ble_eq_true rfl) rfl mw_279 rfl ?_
          obtain ⟨rfl, rfl, rfl, rfl⟩ := g_re4 h
          exact e_iret dX6_family_93
        · refine e_aload_n (pc' := 65) (i := 0) rfl rfl dX6_family_64 rfl ?_
          obtain ⟨v23, I20, A21, L22, hF19, h⟩ := g_b2_e h
          refine e_callV_i (pc' := 68) dX6_family_65 rfl mw_401 mv_X6_refuseFull rfl (Nat.le_of_ble_eq_true rfl) (Nat.le_of_ble_eq_true rfl) rfl (Nat.le_of_ble_eq_true rfl) (Nat.le_of_ble_eq_true rfl) rfl (c_X6_refuseFull hF19) rfl ?_
          obtain ⟨rfl, rfl, rfl, rfl⟩ := g_re4 h
          exact e_iret dX6_family_68
      · exact e_weak (lc' := [some (.ref 0), none, none, none, none, none]) (gle_s (gle_n (gle_n (gle_n (gle_n (gle_n gle_0)))))) (w_X6_family_p25  _ _ _ _ h)
set_option maxHeartbeats 4000000 in
set_option maxRecDepth 100000 in
theorem c_X6_isPlane (a0 : Int32) {I : Nat → Int32} {A : Nat → Nat → Int32} {L : Nat → Int64} {t : Int32} (h : f_X6_isPlane I A L a0 = some t) : GM 70 yX6_isPlane cX6_isPlane 2 (some .boolean) 0 [.ref 0, .int a0] I A L (some (.int t), (I, A, L)) := by
  refine gm_of (n := 0) (lc := [some (.ref 0), some (.int a0)]) (by decide +kernel) rfl (fun _ => Nat.le_of_ble_eq_true rfl) ?_
  change Ev 70 RX6 cX6_isPlane 2 (some .boolean) 0 0 [some (.ref 0), some (.int a0)] [] I A L _
  unfold f_X6_isPlane at h
  refine e_iload_n (pc' := 1) (i := 1) rfl rfl dX6_isPlane_0 rfl ?_
  refine e_if_lt (tgt := 19) (pc' := 4) dX6_isPlane_1 (by decide) rfl h (fun h => ?_) (fun h => ?_)
  · refine e_iconst (v := 0) (pc' := 20) (by decide) dX6_isPlane_19 rfl ?_
    obtain rfl := g_re1 h
    exact e_zret dX6_isPlane_20 (by decide)
  · refine e_iload_n (pc' := 5) (i := 1) rfl rfl dX6_isPlane_4 rfl ?_
    refine e_aload_n (pc' := 6) (i := 0) rfl rfl dX6_isPlane_5 rfl ?_
    refine e_getR (a := 0) (b := 1) (k0 := 0) (pc' := 9) dX6_isPlane_6 rfl rfl (Nat.le_of_ble_eq_true rfl) (Nat.le_of_ble_eq_true rfl) rfl mw_335 rfl ?_
    refine e_getIN (a := 1) (n := 20) (k0 := 4) (pc' := 12) dX6_isPlane_9 rfl rfl (Nat.le_of_ble_eq_true rfl) (Nat.le_of_ble_eq_true rfl) rfl mw_144 rfl ?_
    refine e_icmp_ge (tgt := 19) (pc' := 15) dX6_isPlane_12 (by decide) rfl h (fun h => ?_) (fun h => ?_)
    · refine e_iconst (v := 0) (pc' := 20) (by decide) dX6_isPlane_19 rfl ?_
      obtain rfl := g_re1 h
      exact e_zret dX6_isPlane_20 (by decide)
    · refine e_iconst (v := 1) (pc' := 16) (by decide) dX6_isPlane_15 rfl ?_
      refine e_goto (tgt := 20) dX6_isPlane_16 (by decide) ?_
      obtain rfl := g_re1 h
      exact e_zret dX6_isPlane_20 (by decide)
set_option maxHeartbeats 4000000 in
set_option maxRecDepth 100000 in
theorem w_X6_off_p15  : ∀ (I : Nat → Int32) (A : Nat → Nat → Int32) (L : Nat → Int64) (t : (Int32 × gS)), f_X6_off_p15 I A L = some t → Ev 70 RX6 cX6_off 4 (some .int) 4 15 [some (.ref 0), none, none, none] [] I A L (some (.int t.1), t.2) := by
  intro  I A L t h
  unfold f_X6_off_p15 at h
  refine e_aload_n (pc' := 16) (i := 0) rfl rfl dX6_off_15 rfl ?_
  refine e_bipush (v := (-2)) (pc' := 18) (by decide) dX6_off_16 rfl ?_
  obtain ⟨v5, I2, A3, L4, hF1, h⟩ := g_b2_e h
  refine e_callV_i (pc' := 21) dX6_off_18 rfl mw_397 mv_X6_refuseBad rfl (Nat.le_of_ble_eq_true rfl) (Nat.le_of_ble_eq_true rfl) rfl (Nat.le_of_ble_eq_true rfl) (Nat.le_of_ble_eq_true rfl) rfl (c_X6_refuseBad _ hF1) rfl ?_
  obtain rfl := g_re1 h
  exact e_iret dX6_off_21
set_option maxHeartbeats 4000000 in
set_option maxRecDepth 100000 in
theorem c_X6_off (a0 : Int32) (a1 : Int32) {I : Nat → Int32} {A : Nat → Nat → Int32} {L : Nat → Int64} {t : Int32} {I' : Nat → Int32} {A' : Nat → Nat → Int32} {L' : Nat → Int64} (h : f_X6_off  a0 a1 I A L = some (t, I', A', L')) : GM 70 yX6_off cX6_off 4 (some .int) 4 [.ref 0, .int a0, .int a1] I A L (some (.int t), (I', A', L')) := by
  refine gm_of (n := 1) (lc := [some (.ref 0), some (.int a0), some (.int a1), none]) (by decide +kernel) rfl (fun _ => Nat.le_of_ble_eq_true rfl) ?_
  change Ev 70 RX6 cX6_off 4 (some .int) 4 0 [some (.ref 0), some (.int a0), some (.int a1), none] [] I A L _
  unfold f_X6_off at h
  refine e_aload_n (pc' := 1) (i := 0) rfl rfl dX6_off_0 rfl ?_
  refine e_iload_n (pc' := 2) (i := 1) rfl rfl dX6_off_1 rfl ?_
  obtain ⟨v2, hF1, h⟩ := g_bd_e h
  refine e_callV_i (pc' := 5) dX6_off_2 rfl mw_469 mv_X6_isPlane rfl (Nat.le_of_ble_eq_true rfl) (Nat.le_of_ble_eq_true rfl) rfl (Nat.le_of_ble_eq_true rfl) (Nat.le_of_ble_eq_true rfl) rfl (c_X6_isPlane _ hF1) rfl ?_
  refine e_if_eq (tgt := 15) (pc' := 8) dX6_off_5 (by decide) rfl h (fun h => ?_) (fun h => ?_)
  · exact e_weak (lc' := [some (.ref 0), none, none, none]) (gle_s (gle_n (gle_n (gle_n gle_0)))) (w_X6_off_p15  _ _ _ _ h)
  · refine e_iload_n (pc' := 9) (i := 2) rfl rfl dX6_off_8 rfl ?_
    obtain ⟨v4, hF3, h⟩ := g_bd_e h
    refine e_callS_i (pc' := 12) dX6_off_9 rfl mw_394 ms_X6_isOff rfl (Nat.le_of_ble_eq_true rfl) (Nat.le_of_ble_eq_true rfl) (c_X6_isOff _ hF3) rfl ?_
    refine e_if_ne (tgt := 22) (pc' := 15) dX6_off_12 (by decide) rfl h (fun h => ?_) (fun h => ?_)
    · refine e_aload_n (pc' := 23) (i := 0) rfl rfl dX6_off_22 rfl ?_
      obtain ⟨I6, A7, L8, hF5, h⟩ := g_b1_e h
      refine e_callV_v (pc' := 26) dX6_off_23 rfl mw_405 mv_X6_leaveState rfl (Nat.le_of_ble_eq_true rfl) (Nat.le_of_ble_eq_true rfl) rfl (Nat.le_of_ble_eq_true rfl) (Nat.le_of_ble_eq_true rfl) rfl (c_X6_leaveState hF5) rfl ?_
      refine e_aload_n (pc' := 27) (i := 0) rfl rfl dX6_off_26 rfl ?_
      refine e_getR (a := 0) (b := 1) (k0 := 0) (pc' := 30) dX6_off_27 rfl rfl (Nat.le_of_ble_eq_true rfl) (Nat.le_of_ble_eq_true rfl) rfl mw_335 rfl ?_
      refine e_getRN (a := 1) (b := 5) (k0 := 3) (pc' := 33) dX6_off_30 rfl rfl (Nat.le_of_ble_eq_true rfl) (Nat.le_of_ble_eq_true rfl) rfl mw_140 rfl ?_
      refine e_iload_n (pc' := 34) (i := 1) rfl rfl dX6_off_33 rfl ?_
      refine e_iald (n := 32) (pc' := 35) dX6_off_34 rfl rfl (Nat.le_of_ble_eq_true rfl) h (fun h => ?_)
      refine e_lt h (fun v9 h => ?_)
      refine e_istore_n (pc' := 36) (i := 3) (lc' := [some (.ref 0), some (.int a0), some (.int a1), some (.int v9)]) rfl dX6_off_35 rfl (Nat.le_of_ble_eq_true rfl) rfl rfl ?_
      refine e_aload_n (pc' := 37) (i := 0) rfl rfl dX6_off_36 rfl ?_
      refine e_getR (a := 0) (b := 1) (k0 := 0) (pc' := 40) dX6_off_37 rfl rfl (Nat.le_of_ble_eq_true rfl) (Nat.le_of_ble_eq_true rfl) rfl mw_335 rfl ?_
      refine e_getRN (a := 1) (b := 5) (k0 := 3) (pc' := 43) dX6_off_40 rfl rfl (Nat.le_of_ble_eq_true rfl) (Nat.le_of_ble_eq_true rfl) rfl mw_140 rfl ?_
      refine e_iload_n (pc' := 44) (i := 1) rfl rfl dX6_off_43 rfl ?_
      refine e_iload_n (pc' := 45) (i := 2) rfl rfl dX6_off_44 rfl ?_
      refine e_iast (n := 32) (pc' := 46) dX6_off_45 rfl rfl (Nat.le_of_ble_eq_true rfl) h (fun h => ?_)
      refine e_ltA h (fun A10 h => ?_)
      refine e_iload_n (pc' := 47) (i := 3) rfl rfl dX6_off_46 rfl ?_
      obtain ⟨rfl, rfl, rfl, rfl⟩ := g_re4 h
      exact e_iret dX6_off_47
    · exact e_weak (lc' := [some (.ref 0), none, none, none]) (gle_s (gle_n (gle_n (gle_n gle_0)))) (w_X6_off_p15  _ _ _ _ h)
set_option maxHeartbeats 4000000 in
set_option maxRecDepth 100000 in
theorem w_X2_takeOut_1_p2  : ∀ (n : Nat) (x2 : Int32) (I : Nat → Int32) (A : Nat → Nat → Int32) (L : Nat → Int64) (t : gS), f_X2_takeOut_p2 1 n x2 I A L = some t → Ev 70 RX2 cX2_takeOut 3 none 0 2 [some (.ref 1), none, some (.int x2)] [] I A L (none, t) := by
  intro n
  induction n with
  | zero =>
    intro x2 I A L t h
    cases h
  | succ n ih =>
    intro x2 I A L t h
    rw [f_X2_takeOut_p2] at h
    refine e_iload_n (pc' := 3) (i := 2) rfl rfl dX2_takeOut_2 rfl ?_
    refine e_iconst (v := 1) (pc' := 4) (by decide) dX2_takeOut_3 rfl ?_
    refine e_iadd (pc' := 5) dX2_takeOut_4 rfl ?_
    refine e_aload_n (pc' := 6) (i := 0) rfl rfl dX2_takeOut_5 rfl ?_
    refine e_getI (a := 1) (n := 20) (k0 := 4) (pc' := 9) dX2_takeOut_6 rfl rfl (Nat.le_of_ble_eq_true rfl) (Nat.le_of_ble_eq_true rfl) rfl mw_142 rfl ?_
    refine e_icmp_ge (tgt := 74) (pc' := 12) dX2_takeOut_9 (by decide) rfl h (fun h => ?_) (fun h => ?_)
    · refine e_aload_n (pc' := 75) (i := 0) rfl rfl dX2_takeOut_74 rfl ?_
      refine e_dup (pc' := 76) rfl dX2_takeOut_75 rfl ?_
      refine e_getI (a := 1) (n := 20) (k0 := 4) (pc' := 79) dX2_takeOut_76 rfl rfl (Nat.le_of_ble_eq_true rfl) (Nat.le_of_ble_eq_true rfl) rfl mw_142 rfl ?_
      refine e_iconst (v := 1) (pc' := 80) (by decide) dX2_takeOut_79 rfl ?_
      refine e_isub (pc' := 81) dX2_takeOut_80 rfl ?_
      refine e_putI (a := 1) (n := 20) (k0 := 4) (pc' := 84) dX2_takeOut_81 rfl rfl (Nat.le_of_ble_eq_true rfl) (Nat.le_of_ble_eq_true rfl) rfl mw_142 rfl rfl g_pI rfl rfl ?_
      refine e_ltI h (fun I1 h => ?_)
      obtain rfl := g_re1 h
      exact e_vret dX2_takeOut_84
    · refine e_aload_n (pc' := 13) (i := 0) rfl rfl dX2_takeOut_12 rfl ?_
      refine e_getR (a := 1) (b := 2) (k0 := 0) (pc' := 16) dX2_takeOut_13 rfl rfl (Nat.le_of_ble_eq_true rfl) (Nat.le_of_ble_eq_true rfl) rfl mw_126 rfl ?_
      refine e_iload_n (pc' := 17) (i := 2) rfl rfl dX2_takeOut_16 rfl ?_
      refine e_aload_n (pc' := 18) (i := 0) rfl rfl dX2_takeOut_17 rfl ?_
      refine e_getR (a := 1) (b := 2) (k0 := 0) (pc' := 21) dX2_takeOut_18 rfl rfl (Nat.le_of_ble_eq_true rfl) (Nat.le_of_ble_eq_true rfl) rfl mw_126 rfl ?_
      refine e_iload_n (pc' := 22) (i := 2) rfl rfl dX2_takeOut_21 rfl ?_
      refine e_iconst (v := 1) (pc' := 23) (by decide) dX2_takeOut_22 rfl ?_
      refine e_iadd (pc' := 24) dX2_takeOut_23 rfl ?_
      refine e_iald (n := 32) (pc' := 25) dX2_takeOut_24 rfl rfl (Nat.le_of_ble_eq_true rfl) h (fun h => ?_)
      refine e_iast (n := 32) (pc' := 26) dX2_takeOut_25 rfl rfl (Nat.le_of_ble_eq_true rfl) h (fun h => ?_)
      refine e_ltA h (fun A2 h => ?_)
      refine e_aload_n (pc' := 27) (i := 0) rfl rfl dX2_takeOut_26 rfl ?_
      refine e_getR (a := 1) (b := 3) (k0 := 1) (pc' := 30) dX2_takeOut_27 rfl rfl (Nat.le_of_ble_eq_true rfl) (Nat.le_of_ble_eq_true rfl) rfl mw_130 rfl ?_
      refine e_iload_n (pc' := 31) (i := 2) rfl rfl dX2_takeOut_30 rfl ?_
      refine e_aload_n (pc' := 32) (i := 0) rfl rfl dX2_takeOut_31 rfl ?_
      refine e_getR (a := 1) (b := 3) (k0 := 1) (pc' := 35) dX2_takeOut_32 rfl rfl (Nat.le_of_ble_eq_true rfl) (Nat.le_of_ble_eq_true rfl) rfl mw_130 rfl ?_
      refine e_iload_n (pc' := 36) (i := 2) rfl rfl dX2_takeOut_35 rfl ?_
      refine e_iconst (v := 1) (pc' := 37) (by decide) dX2_takeOut_36 rfl ?_
      refine e_iadd (pc' := 38) dX2_takeOut_37 rfl ?_
      refine e_iald (n := 32) (pc' := 39) dX2_takeOut_38 rfl rfl (Nat.le_of_ble_eq_true rfl) h (fun h => ?_)
      refine e_iast (n := 32) (pc' := 40) dX2_takeOut_39 rfl rfl (Nat.le_of_ble_eq_true rfl) h (fun h => ?_)
      refine e_ltA h (fun A3 h => ?_)
      refine e_aload_n (pc' := 41) (i := 0) rfl rfl dX2_takeOut_40 rfl ?_
      refine e_getR (a := 1) (b := 4) (k0 := 2) (pc' := 44) dX2_takeOut_41 rfl rfl (Nat.le_of_ble_eq_true rfl) (Nat.le_of_ble_eq_true rfl) rfl mw_134 rfl ?_
      refine e_iload_n (pc' := 45) (i := 2) rfl rfl dX2_takeOut_44 rfl ?_
      refine e_aload_n (pc' := 46) (i := 0) rfl rfl dX2_takeOut_45 rfl ?_
      refine e_getR (a := 1) (b := 4) (k0 := 2) (pc' := 49) dX2_takeOut_46 rfl rfl (Nat.le_of_ble_eq_true rfl) (Nat.le_of_ble_eq_true rfl) rfl mw_134 rfl ?_
      refine e_iload_n (pc' := 50) (i := 2) rfl rfl dX2_takeOut_49 rfl ?_
      refine e_iconst (v := 1) (pc' := 51) (by decide) dX2_takeOut_50 rfl ?_
      refine e_iadd (pc' := 52) dX2_takeOut_51 rfl ?_
      refine e_iald (n := 32) (pc' := 53) dX2_takeOut_52 rfl rfl (Nat.le_of_ble_eq_true rfl) h (fun h => ?_)
      refine e_iast (n := 32) (pc' := 54) dX2_takeOut_53 rfl rfl (Nat.le_of_ble_eq_true rfl) h (fun h => ?_)
      refine e_ltA h (fun A4 h => ?_)
      refine e_aload_n (pc' := 55) (i := 0) rfl rfl dX2_takeOut_54 rfl ?_
      refine e_getR (a := 1) (b := 5) (k0 := 3) (pc' := 58) dX2_takeOut_55 rfl rfl (Nat.le_of_ble_eq_true rfl) (Nat.le_of_ble_eq_true rfl) rfl mw_138 rfl ?_
      refine e_iload_n (pc' := 59) (i := 2) rfl rfl dX2_takeOut_58 rfl ?_
      refine e_aload_n (pc' := 60) (i := 0) rfl rfl dX2_takeOut_59 rfl ?_
      refine e_getR (a := 1) (b := 5) (k0 := 3) (pc' := 63) dX2_takeOut_60 rfl rfl (Nat.le_of_ble_eq_true rfl) (Nat.le_of_ble_eq_true rfl) rfl mw_138 rfl ?_
      refine e_iload_n (pc' := 64) (i := 2) rfl rfl dX2_takeOut_63 rfl ?_
      refine e_iconst (v := 1) (pc' := 65) (by decide) dX2_takeOut_64 rfl ?_
      refine e_iadd (pc' := 66) dX2_takeOut_65 rfl ?_
      refine e_iald (n := 32) (pc' := 67) dX2_takeOut_66 rfl rfl (Nat.le_of_ble_eq_true rfl) h (fun h => ?_)
      refine e_iast (n := 32) (pc' := 68) dX2_takeOut_67 rfl rfl (Nat.le_of_ble_eq_true rfl) h (fun h => ?_)
      refine e_ltA h (fun A5 h => ?_)
      refine e_iinc (pc' := 71) (v := (x2 + 1)) (lc' := [some (.ref 1), none, some (.int (x2 + 1))]) dX2_takeOut_68 rfl rfl rfl (Nat.le_of_ble_eq_true rfl) rfl rfl ?_
      refine e_goto (tgt := 2) dX2_takeOut_71 (by decide) ?_
      exact e_weak (lc' := [some (.ref 1), none, some (.int (x2 + 1))]) (gle_s (gle_n (gle_s gle_0))) (ih _ _ _ _ _ h)
set_option maxHeartbeats 4000000 in
set_option maxRecDepth 100000 in
theorem c_X2_takeOut_1 (a0 : Int32) {I : Nat → Int32} {A : Nat → Nat → Int32} {L : Nat → Int64} {I' : Nat → Int32} {A' : Nat → Nat → Int32} {L' : Nat → Int64} (h : f_X2_takeOut 1 a0 I A L = some (I', A', L')) : GM 70 yX2_takeOut cX2_takeOut 3 none 0 [.ref 1, .int a0] I A L (none, (I', A', L')) := by
  refine gm_of (n := 1) (lc := [some (.ref 1), some (.int a0), none]) (by decide +kernel) rfl (fun _ => Nat.le_of_ble_eq_true rfl) ?_
  change Ev 70 RX2 cX2_takeOut 3 none 0 0 [some (.ref 1), some (.int a0), none] [] I A L _
  unfold f_X2_takeOut at h
  refine e_iload_n (pc' := 1) (i := 1) rfl rfl dX2_takeOut_0 rfl ?_
  refine e_istore_n (pc' := 2) (i := 2) (lc' := [some (.ref 1), some (.int a0), some (.int a0)]) rfl dX2_takeOut_1 rfl (Nat.le_of_ble_eq_true rfl) rfl rfl ?_
  exact e_weak (lc' := [some (.ref 1), none, some (.int a0)]) (gle_s (gle_n (gle_s gle_0))) (w_X2_takeOut_1_p2  _ _ _ _ _ _ h)
set_option maxHeartbeats 4000000 in
set_option maxRecDepth 100000 in
theorem w_X6_drop_p14  : ∀ (I : Nat → Int32) (A : Nat → Nat → Int32) (L : Nat → Int64) (t : (Int32 × gS)), f_X6_drop_p14 I A L = some t → Ev 70 RX6 cX6_drop 2 (some .int) 4 14 [some (.ref 0), none] [] I A L (some (.int t.1), t.2) := by
  intro  I A L t h
  unfold f_X6_drop_p14 at h
  refine e_aload_n (pc' := 15) (i := 0) rfl rfl dX6_drop_14 rfl ?_
  refine e_bipush (v := (-2)) (pc' := 17) (by decide) dX6_drop_15 rfl ?_
  obtain ⟨v5, I2, A3, L4, hF1, h⟩ := g_b2_e h
  refine e_callV_i (pc' := 20) dX6_drop_17 rfl mw_397 mv_X6_refuseBad rfl (Nat.le_of_ble_eq_true rfl) (Nat.le_of_ble_eq_true rfl) rfl (Nat.le_of_ble_eq_true rfl) (Nat.le_of_ble_eq_true rfl) rfl (c_X6_refuseBad _ hF1) rfl ?_
  obtain rfl := g_re1 h
  exact e_iret dX6_drop_20
set_option maxHeartbeats 4000000 in
set_option maxRecDepth 100000 in
theorem c_X6_drop (a0 : Int32) {I : Nat → Int32} {A : Nat → Nat → Int32} {L : Nat → Int64} {t : Int32} {I' : Nat → Int32} {A' : Nat → Nat → Int32} {L' : Nat → Int64} (h : f_X6_drop  a0 I A L = some (t, I', A', L')) : GM 70 yX6_drop cX6_drop 2 (some .int) 4 [.ref 0, .int a0] I A L (some (.int t), (I', A', L')) := by
  refine gm_of (n := 0) (lc := [some (.ref 0), some (.int a0)]) (by decide +kernel) rfl (fun _ => Nat.le_of_ble_eq_true rfl) ?_
  change Ev 70 RX6 cX6_drop 2 (some .int) 4 0 [some (.ref 0), some (.int a0)] [] I A L _
  unfold f_X6_drop at h
  refine e_aload_n (pc' := 1) (i := 0) rfl rfl dX6_drop_0 rfl ?_
  refine e_iload_n (pc' := 2) (i := 1) rfl rfl dX6_drop_1 rfl ?_
  obtain ⟨v2, hF1, h⟩ := g_bd_e h
  refine e_callV_i (pc' := 5) dX6_drop_2 rfl mw_469 mv_X6_isPlane rfl (Nat.le_of_ble_eq_true rfl) (Nat.le_of_ble_eq_true rfl) rfl (Nat.le_of_ble_eq_true rfl) (Nat.le_of_ble_eq_true rfl) rfl (c_X6_isPlane _ hF1) rfl ?_
  refine e_if_eq (tgt := 14) (pc' := 8) dX6_drop_5 (by decide) rfl h (fun h => ?_) (fun h => ?_)
  · exact e_weak (lc' := [some (.ref 0), none]) (gle_s (gle_n gle_0)) (w_X6_drop_p14  _ _ _ _ h)
  · refine e_iload_n (pc' := 9) (i := 1) rfl rfl dX6_drop_8 rfl ?_
    refine e_bipush (v := 6) (pc' := 11) (by decide) dX6_drop_9 rfl ?_
    refine e_icmp_ge (tgt := 21) (pc' := 14) dX6_drop_11 (by decide) rfl h (fun h => ?_) (fun h => ?_)
    · refine e_aload_n (pc' := 22) (i := 0) rfl rfl dX6_drop_21 rfl ?_
      obtain ⟨I4, A5, L6, hF3, h⟩ := g_b1_e h
      refine e_callV_v (pc' := 25) dX6_drop_22 rfl mw_405 mv_X6_leaveState rfl (Nat.le_of_ble_eq_true rfl) (Nat.le_of_ble_eq_true rfl) rfl (Nat.le_of_ble_eq_true rfl) (Nat.le_of_ble_eq_true rfl) rfl (c_X6_leaveState hF3) rfl ?_
      refine e_aload_n (pc' := 26) (i := 0) rfl rfl dX6_drop_25 rfl ?_
      refine e_getR (a := 0) (b := 1) (k0 := 0) (pc' := 29) dX6_drop_26 rfl rfl (Nat.le_of_ble_eq_true rfl) (Nat.le_of_ble_eq_true rfl) rfl mw_335 rfl ?_
      refine e_iload_n (pc' := 30) (i := 1) rfl rfl dX6_drop_29 rfl ?_
      obtain ⟨I8, A9, L10, hF7, h⟩ := g_b1_e h
      refine e_callVN_v (pc' := 33) dX6_drop_30 rfl mw_477 mv_X2_takeOut rfl (Nat.le_of_ble_eq_true rfl) (Nat.le_of_ble_eq_true rfl) rfl (Nat.le_of_ble_eq_true rfl) (Nat.le_of_ble_eq_true rfl) rfl (c_X2_takeOut_1 _ hF7) rfl ?_
      refine e_aload_n (pc' := 34) (i := 0) rfl rfl dX6_drop_33 rfl ?_
      refine e_getR (a := 0) (b := 1) (k0 := 0) (pc' := 37) dX6_drop_34 rfl rfl (Nat.le_of_ble_eq_true rfl) (Nat.le_of_ble_eq_true rfl) rfl mw_335 rfl ?_
      refine e_getIN (a := 1) (n := 20) (k0 := 4) (pc' := 40) dX6_drop_37 rfl rfl (Nat.le_of_ble_eq_true rfl) (Nat.le_of_ble_eq_true rfl) rfl mw_144 rfl ?_
      obtain ⟨rfl, rfl, rfl, rfl⟩ := g_re4 h
      exact e_iret dX6_drop_40
    · exact e_weak (lc' := [some (.ref 0), none]) (gle_s (gle_n gle_0)) (w_X6_drop_p14  _ _ _ _ h)
set_option maxHeartbeats 4000000 in
set_option maxRecDepth 100000 in
theorem c_X2_becomeBox_1  {I : Nat → Int32} {A : Nat → Nat → Int32} {L : Nat → Int64} {I' : Nat → Int32} {A' : Nat → Nat → Int32} {L' : Nat → Int64} (h : f_X2_becomeBox 1  I A L = some (I', A', L')) : GM 70 yX2_becomeBox cX2_becomeBox 1 none 1 [.ref 1] I A L (none, (I', A', L')) := by
  refine gm_of (n := 0) (lc := [some (.ref 1)]) (by decide +kernel) rfl (fun _ => Nat.le_of_ble_eq_true rfl) ?_
  change Ev 70 RX2 cX2_becomeBox 1 none 1 0 [some (.ref 1)] [] I A L _
  unfold f_X2_becomeBox at h
  refine e_aload_n (pc' := 1) (i := 0) rfl rfl dX2_becomeBox_0 rfl ?_
  refine e_iconst (v := 0) (pc' := 2) (by decide) dX2_becomeBox_1 rfl ?_
  refine e_putI (a := 1) (n := 20) (k0 := 4) (pc' := 5) dX2_becomeBox_2 rfl rfl (Nat.le_of_ble_eq_true rfl) (Nat.le_of_ble_eq_true rfl) rfl mw_142 rfl rfl g_pI rfl rfl ?_
  refine e_ltI h (fun I1 h => ?_)
  refine e_aload_n (pc' := 6) (i := 0) rfl rfl dX2_becomeBox_5 rfl ?_
  refine e_iconst (v := 1) (pc' := 7) (by decide) dX2_becomeBox_6 rfl ?_
  refine e_iconst (v := 0) (pc' := 8) (by decide) dX2_becomeBox_7 rfl ?_
  refine e_iconst (v := 0) (pc' := 9) (by decide) dX2_becomeBox_8 rfl ?_
  refine e_bipush (v := 20) (pc' := 11) (by decide) dX2_becomeBox_9 rfl ?_
  obtain ⟨I3, A4, L5, hF2, h⟩ := g_b1_e h
  refine e_callV_v (pc' := 14) dX2_becomeBox_11 rfl mw_331 mv_X2_put rfl (Nat.le_of_ble_eq_true rfl) (Nat.le_of_ble_eq_true rfl) rfl (Nat.le_of_ble_eq_true rfl) (Nat.le_of_ble_eq_true rfl) rfl (c_X2_put_1 _ _ _ _ hF2) rfl ?_
  refine e_aload_n (pc' := 15) (i := 0) rfl rfl dX2_becomeBox_14 rfl ?_
  refine e_iconst (v := (-1)) (pc' := 16) (by decide) dX2_becomeBox_15 rfl ?_
  refine e_iconst (v := 0) (pc' := 17) (by decide) dX2_becomeBox_16 rfl ?_
  refine e_iconst (v := 0) (pc' := 18) (by decide) dX2_becomeBox_17 rfl ?_
  refine e_bipush (v := 20) (pc' := 20) (by decide) dX2_becomeBox_18 rfl ?_
  obtain ⟨I7, A8, L9, hF6, h⟩ := g_b1_e h
  refine e_callV_v (pc' := 23) dX2_becomeBox_20 rfl mw_331 mv_X2_put rfl (Nat.le_of_ble_eq_true rfl) (Nat.le_of_ble_eq_true rfl) rfl (Nat.le_of_ble_eq_true rfl) (Nat.le_of_ble_eq_true rfl) rfl (c_X2_put_1 _ _ _ _ hF6) rfl ?_
  refine e_aload_n (pc' := 24) (i := 0) rfl rfl dX2_becomeBox_23 rfl ?_
  refine e_iconst (v := 0) (pc' := 25) (by decide) dX2_becomeBox_24 rfl ?_
  refine e_iconst (v := 1) (pc' := 26) (by decide) dX2_becomeBox_25 rfl ?_
  refine e_iconst (v := 0) (pc' := 27) (by decide) dX2_becomeBox_26 rfl ?_
  refine e_bipush (v := 20) (pc' := 29) (by decide) dX2_becomeBox_27 rfl ?_
  obtain ⟨I11, A12, L13, hF10, h⟩ := g_b1_e h
  refine e_callV_v (pc' := 32) dX2_becomeBox_29 rfl mw_331 mv_X2_put rfl (Nat.le_of_ble_eq_true rfl) (Nat.le_of_ble_eq_true rfl) rfl (Nat.le_of_ble_eq_true rfl) (Nat.le_of_ble_eq_true rfl) rfl (c_X2_put_1 _ _ _ _ hF10) rfl ?_
  refine e_aload_n (pc' := 33) (i := 0) rfl rfl dX2_becomeBox_32 rfl ?_
  refine e_iconst (v := 0) (pc' := 34) (by decide) dX2_becomeBox_33 rfl ?_
  refine e_iconst (v := (-1)) (pc' := 35) (by decide) dX2_becomeBox_34 rfl ?_
  refine e_iconst (v := 0) (pc' := 36) (by decide) dX2_becomeBox_35 rfl ?_
  refine e_bipush (v := 20) (pc' := 38) (by decide) dX2_becomeBox_36 rfl ?_
  obtain ⟨I15, A16, L17, hF14, h⟩ := g_b1_e h
  refine e_callV_v (pc' := 41) dX2_becomeBox_38 rfl mw_331 mv_X2_put rfl (Nat.le_of_ble_eq_true rfl) (Nat.le_of_ble_eq_true rfl) rfl (Nat.le_of_ble_eq_true rfl) (Nat.le_of_ble_eq_true rfl) rfl (c_X2_put_1 _ _ _ _ hF14) rfl ?_
  refine e_aload_n (pc' := 42) (i := 0) rfl rfl dX2_becomeBox_41 rfl ?_
  refine e_iconst (v := 0) (pc' := 43) (by decide) dX2_becomeBox_42 rfl ?_
  refine e_iconst (v := 0) (pc' := 44) (by decide) dX2_becomeBox_43 rfl ?_
  refine e_iconst (v := 1) (pc' := 45) (by decide) dX2_becomeBox_44 rfl ?_
  refine e_bipush (v := 20) (pc' := 47) (by decide) dX2_becomeBox_45 rfl ?_
  obtain ⟨I19, A20, L21, hF18, h⟩ := g_b1_e h
  refine e_callV_v (pc' := 50) dX2_becomeBox_47 rfl mw_331 mv_X2_put rfl (Nat.le_of_ble_eq_true rfl) (Nat.le_of_ble_eq_true rfl) rfl (Nat.le_of_ble_eq_true rfl) (Nat.le_of_ble_eq_true rfl) rfl (c_X2_put_1 _ _ _ _ hF18) rfl ?_
  refine e_aload_n (pc' := 51) (i := 0) rfl rfl dX2_becomeBox_50 rfl ?_
  refine e_iconst (v := 0) (pc' := 52) (by decide) dX2_becomeBox_51 rfl ?_
  refine e_iconst (v := 0) (pc' := 53) (by decide) dX2_becomeBox_52 rfl ?_
  refine e_iconst (v := (-1)) (pc' := 54) (by decide) dX2_becomeBox_53 rfl ?_
  refine e_bipush (v := 20) (pc' := 56) (by decide) dX2_becomeBox_54 rfl ?_
  obtain ⟨I23, A24, L25, hF22, h⟩ := g_b1_e h
  refine e_callV_v (pc' := 59) dX2_becomeBox_56 rfl mw_331 mv_X2_put rfl (Nat.le_of_ble_eq_true rfl) (Nat.le_of_ble_eq_true rfl) rfl (Nat.le_of_ble_eq_true rfl) (Nat.le_of_ble_eq_true rfl) rfl (c_X2_put_1 _ _ _ _ hF22) rfl ?_
  obtain ⟨rfl, rfl, rfl⟩ := g_re3 h
  exact e_vret dX2_becomeBox_59
set_option maxHeartbeats 4000000 in
set_option maxRecDepth 100000 in
theorem c_X6_anew  {I : Nat → Int32} {A : Nat → Nat → Int32} {L : Nat → Int64} {t : Int32} {I' : Nat → Int32} {A' : Nat → Nat → Int32} {L' : Nat → Int64} (h : f_X6_anew   I A L = some (t, I', A', L')) : GM 70 yX6_anew cX6_anew 2 (some .int) 4 [.ref 0] I A L (some (.int t), (I', A', L')) := by
  refine gm_of (n := 1) (lc := [some (.ref 0), none]) (by decide +kernel) rfl (fun _ => Nat.le_of_ble_eq_true rfl) ?_
  change Ev 70 RX6 cX6_anew 2 (some .int) 4 0 [some (.ref 0), none] [] I A L _
  unfold f_X6_anew at h
  refine e_aload_n (pc' := 1) (i := 0) rfl rfl dX6_anew_0 rfl ?_
  refine e_getR (a := 0) (b := 1) (k0 := 0) (pc' := 4) dX6_anew_1 rfl rfl (Nat.le_of_ble_eq_true rfl) (Nat.le_of_ble_eq_true rfl) rfl mw_335 rfl ?_
  refine e_getIN (a := 1) (n := 20) (k0 := 4) (pc' := 7) dX6_anew_4 rfl rfl (Nat.le_of_ble_eq_true rfl) (Nat.le_of_ble_eq_true rfl) rfl mw_144 rfl ?_
  refine e_istore_n (pc' := 8) (i := 1) (lc' := [some (.ref 0), some (.int (I 20))]) rfl dX6_anew_7 rfl (Nat.le_of_ble_eq_true rfl) rfl rfl ?_
  refine e_aload_n (pc' := 9) (i := 0) rfl rfl dX6_anew_8 rfl ?_
  obtain ⟨I2, A3, L4, hF1, h⟩ := g_b1_e h
  refine e_callV_v (pc' := 12) dX6_anew_9 rfl mw_405 mv_X6_leaveState rfl (Nat.le_of_ble_eq_true rfl) (Nat.le_of_ble_eq_true rfl) rfl (Nat.le_of_ble_eq_true rfl) (Nat.le_of_ble_eq_true rfl) rfl (c_X6_leaveState hF1) rfl ?_
  refine e_aload_n (pc' := 13) (i := 0) rfl rfl dX6_anew_12 rfl ?_
  refine e_getR (a := 0) (b := 1) (k0 := 0) (pc' := 16) dX6_anew_13 rfl rfl (Nat.le_of_ble_eq_true rfl) (Nat.le_of_ble_eq_true rfl) rfl mw_335 rfl ?_
  obtain ⟨I6, A7, L8, hF5, h⟩ := g_b1_e h
  refine e_callVN_v (pc' := 19) dX6_anew_16 rfl mw_327 mv_X2_becomeBox rfl (Nat.le_of_ble_eq_true rfl) (Nat.le_of_ble_eq_true rfl) rfl (Nat.le_of_ble_eq_true rfl) (Nat.le_of_ble_eq_true rfl) rfl (c_X2_becomeBox_1 hF5) rfl ?_
  refine e_iload_n (pc' := 20) (i := 1) rfl rfl dX6_anew_19 rfl ?_
  obtain ⟨rfl, rfl, rfl, rfl⟩ := g_re4 h
  exact e_iret dX6_anew_20
set_option maxHeartbeats 4000000 in
set_option maxRecDepth 100000 in
theorem c_X1_lay_45_1 (a0 : Int32) (a1 : Int32) {I : Nat → Int32} {A : Nat → Nat → Int32} {L : Nat → Int64} {t : Int32} {I' : Nat → Int32} {A' : Nat → Nat → Int32} {L' : Nat → Int64} (h : f_X1_lay 45 1 a0 a1 I A L = some (t, I', A', L')) : GM 70 yX1_lay cX1_lay 12 (some .boolean) 0 [.ref 45, .ref 1, .int a0, .int a1] I A L (some (.int t), (I', A', L')) := by
  refine gm_of (n := 8) (lc := [some (.ref 45), some (.ref 1), some (.int a0), some (.int a1), none, none, none, none, none, none, none, none]) (by decide +kernel) rfl (fun _ => Nat.le_of_ble_eq_true rfl) ?_
  change Ev 70 RX1 cX1_lay 12 (some .boolean) 0 0 [some (.ref 45), some (.ref 1), some (.int a0), some (.int a1), none, none, none, none, none, none, none, none] [] I A L _
  unfold f_X1_lay at h
  refine e_aload_n (pc' := 1) (i := 1) rfl rfl dX1_lay_0 rfl ?_
  refine e_getRN (a := 1) (b := 2) (k0 := 0) (pc' := 4) dX1_lay_1 rfl rfl (Nat.le_of_ble_eq_true rfl) (Nat.le_of_ble_eq_true rfl) rfl mw_127 rfl ?_
  refine e_iload_n (pc' := 5) (i := 2) rfl rfl dX1_lay_4 rfl ?_
  refine e_iald (n := 32) (pc' := 6) dX1_lay_5 rfl rfl (Nat.le_of_ble_eq_true rfl) h (fun h => ?_)
  refine e_lt h (fun v1 h => ?_)
  refine e_istore (pc' := 8) (i := 4) (lc' := [some (.ref 45), some (.ref 1), some (.int a0), some (.int a1), some (.int v1), none, none, none, none, none, none, none]) dX1_lay_6 rfl (Nat.le_of_ble_eq_true rfl) rfl rfl ?_
  refine e_aload_n (pc' := 9) (i := 1) rfl rfl dX1_lay_8 rfl ?_
  refine e_getRN (a := 1) (b := 3) (k0 := 1) (pc' := 12) dX1_lay_9 rfl rfl (Nat.le_of_ble_eq_true rfl) (Nat.le_of_ble_eq_true rfl) rfl mw_131 rfl ?_
  refine e_iload_n (pc' := 13) (i := 2) rfl rfl dX1_lay_12 rfl ?_
  refine e_iald (n := 32) (pc' := 14) dX1_lay_13 rfl rfl (Nat.le_of_ble_eq_true rfl) h (fun h => ?_)
  refine e_lt h (fun v2 h => ?_)
  refine e_istore (pc' := 16) (i := 5) (lc' := [some (.ref 45), some (.ref 1), some (.int a0), some (.int a1), some (.int v1), some (.int v2), none, none, none, none, none, none]) dX1_lay_14 rfl (Nat.le_of_ble_eq_true rfl) rfl rfl ?_
  refine e_aload_n (pc' := 17) (i := 1) rfl rfl dX1_lay_16 rfl ?_
  refine e_getRN (a := 1) (b := 4) (k0 := 2) (pc' := 20) dX1_lay_17 rfl rfl (Nat.le_of_ble_eq_true rfl) (Nat.le_of_ble_eq_true rfl) rfl mw_135 rfl ?_
  refine e_iload_n (pc' := 21) (i := 2) rfl rfl dX1_lay_20 rfl ?_
  refine e_iald (n := 32) (pc' := 22) dX1_lay_21 rfl rfl (Nat.le_of_ble_eq_true rfl) h (fun h => ?_)
  refine e_lt h (fun v3 h => ?_)
  refine e_istore (pc' := 24) (i := 6) (lc' := [some (.ref 45), some (.ref 1), some (.int a0), some (.int a1), some (.int v1), some (.int v2), some (.int v3), none, none, none, none, none]) dX1_lay_22 rfl (Nat.le_of_ble_eq_true rfl) rfl rfl ?_
  refine e_aload_n (pc' := 25) (i := 1) rfl rfl dX1_lay_24 rfl ?_
  refine e_getRN (a := 1) (b := 5) (k0 := 3) (pc' := 28) dX1_lay_25 rfl rfl (Nat.le_of_ble_eq_true rfl) (Nat.le_of_ble_eq_true rfl) rfl mw_139 rfl ?_
  refine e_iload_n (pc' := 29) (i := 2) rfl rfl dX1_lay_28 rfl ?_
  refine e_iald (n := 32) (pc' := 30) dX1_lay_29 rfl rfl (Nat.le_of_ble_eq_true rfl) h (fun h => ?_)
  refine e_lt h (fun v4 h => ?_)
  refine e_istore (pc' := 32) (i := 7) (lc' := [some (.ref 45), some (.ref 1), some (.int a0), some (.int a1), some (.int v1), some (.int v2), some (.int v3), some (.int v4), none, none, none, none]) dX1_lay_30 rfl (Nat.le_of_ble_eq_true rfl) rfl rfl ?_
  refine e_aload_n (pc' := 33) (i := 1) rfl rfl dX1_lay_32 rfl ?_
  refine e_getRN (a := 1) (b := 2) (k0 := 0) (pc' := 36) dX1_lay_33 rfl rfl (Nat.le_of_ble_eq_true rfl) (Nat.le_of_ble_eq_true rfl) rfl mw_127 rfl ?_
  refine e_iload_n (pc' := 37) (i := 3) rfl rfl dX1_lay_36 rfl ?_
  refine e_iald (n := 32) (pc' := 38) dX1_lay_37 rfl rfl (Nat.le_of_ble_eq_true rfl) h (fun h => ?_)
  refine e_lt h (fun v5 h => ?_)
  refine e_istore (pc' := 40) (i := 8) (lc' := [some (.ref 45), some (.ref 1), some (.int a0), some (.int a1), some (.int v1), some (.int v2), some (.int v3), some (.int v4), some (.int v5), none, none, none]) dX1_lay_38 rfl (Nat.le_of_ble_eq_true rfl) rfl rfl ?_
  refine e_aload_n (pc' := 41) (i := 1) rfl rfl dX1_lay_40 rfl ?_
  refine e_getRN (a := 1) (b := 3) (k0 := 1) (pc' := 44) dX1_lay_41 rfl rfl (Nat.le_of_ble_eq_true rfl) (Nat.le_of_ble_eq_true rfl) rfl mw_131 rfl ?_
  refine e_iload_n (pc' := 45) (i := 3) rfl rfl dX1_lay_44 rfl ?_
  refine e_iald (n := 32) (pc' := 46) dX1_lay_45 rfl rfl (Nat.le_of_ble_eq_true rfl) h (fun h => ?_)
  refine e_lt h (fun v6 h => ?_)
  refine e_istore (pc' := 48) (i := 9) (lc' := [some (.ref 45), some (.ref 1), some (.int a0), some (.int a1), some (.int v1), some (.int v2), some (.int v3), some (.int v4), some (.int v5), some (.int v6), none, none]) dX1_lay_46 rfl (Nat.le_of_ble_eq_true rfl) rfl rfl ?_
  refine e_aload_n (pc' := 49) (i := 1) rfl rfl dX1_lay_48 rfl ?_
  refine e_getRN (a := 1) (b := 4) (k0 := 2) (pc' := 52) dX1_lay_49 rfl rfl (Nat.le_of_ble_eq_true rfl) (Nat.le_of_ble_eq_true rfl) rfl mw_135 rfl ?_
  refine e_iload_n (pc' := 53) (i := 3) rfl rfl dX1_lay_52 rfl ?_
  refine e_iald (n := 32) (pc' := 54) dX1_lay_53 rfl rfl (Nat.le_of_ble_eq_true rfl) h (fun h => ?_)
  refine e_lt h (fun v7 h => ?_)
  refine e_istore (pc' := 56) (i := 10) (lc' := [some (.ref 45), some (.ref 1), some (.int a0), some (.int a1), some (.int v1), some (.int v2), some (.int v3), some (.int v4), some (.int v5), some (.int v6), some (.int v7), none]) dX1_lay_54 rfl (Nat.le_of_ble_eq_true rfl) rfl rfl ?_
  refine e_aload_n (pc' := 57) (i := 1) rfl rfl dX1_lay_56 rfl ?_
  refine e_getRN (a := 1) (b := 5) (k0 := 3) (pc' := 60) dX1_lay_57 rfl rfl (Nat.le_of_ble_eq_true rfl) (Nat.le_of_ble_eq_true rfl) rfl mw_139 rfl ?_
  refine e_iload_n (pc' := 61) (i := 3) rfl rfl dX1_lay_60 rfl ?_
  refine e_iald (n := 32) (pc' := 62) dX1_lay_61 rfl rfl (Nat.le_of_ble_eq_true rfl) h (fun h => ?_)
  refine e_lt h (fun v8 h => ?_)
  refine e_istore (pc' := 64) (i := 11) (lc' := [some (.ref 45), some (.ref 1), some (.int a0), some (.int a1), some (.int v1), some (.int v2), some (.int v3), some (.int v4), some (.int v5), some (.int v6), some (.int v7), some (.int v8)]) dX1_lay_62 rfl (Nat.le_of_ble_eq_true rfl) rfl rfl ?_
  refine e_aload_n (pc' := 65) (i := 0) rfl rfl dX1_lay_64 rfl ?_
  refine e_iload (pc' := 67) (i := 5) rfl dX1_lay_65 rfl ?_
  refine e_iload (pc' := 69) (i := 10) rfl dX1_lay_67 rfl ?_
  refine e_imul (pc' := 70) dX1_lay_69 rfl ?_
  refine e_iload (pc' := 72) (i := 6) rfl dX1_lay_70 rfl ?_
  refine e_iload (pc' := 74) (i := 9) rfl dX1_lay_72 rfl ?_
  refine e_imul (pc' := 75) dX1_lay_74 rfl ?_
  refine e_isub (pc' := 76) dX1_lay_75 rfl ?_
  refine e_putI (a := 45) (n := 720) (k0 := 0) (pc' := 79) dX1_lay_76 rfl rfl (Nat.le_of_ble_eq_true rfl) (Nat.le_of_ble_eq_true rfl) rfl mw_191 rfl rfl g_pI rfl rfl ?_
  refine e_ltI h (fun I9 h => ?_)
  refine e_aload_n (pc' := 80) (i := 0) rfl rfl dX1_lay_79 rfl ?_
  refine e_iload (pc' := 82) (i := 6) rfl dX1_lay_80 rfl ?_
  refine e_iload (pc' := 84) (i := 8) rfl dX1_lay_82 rfl ?_
  refine e_imul (pc' := 85) dX1_lay_84 rfl ?_
  refine e_iload (pc' := 87) (i := 4) rfl dX1_lay_85 rfl ?_
  refine e_iload (pc' := 89) (i := 10) rfl dX1_lay_87 rfl ?_
  refine e_imul (pc' := 90) dX1_lay_89 rfl ?_
  refine e_isub (pc' := 91) dX1_lay_90 rfl ?_
  refine e_putI (a := 45) (n := 721) (k0 := 1) (pc' := 94) dX1_lay_91 rfl rfl (Nat.le_of_ble_eq_true rfl) (Nat.le_of_ble_eq_true rfl) rfl mw_193 rfl rfl g_pI rfl rfl ?_
  refine e_ltI h (fun I10 h => ?_)
  refine e_aload_n (pc' := 95) (i := 0) rfl rfl dX1_lay_94 rfl ?_
  refine e_iload (pc' := 97) (i := 4) rfl dX1_lay_95 rfl ?_
  refine e_iload (pc' := 99) (i := 9) rfl dX1_lay_97 rfl ?_
  refine e_imul (pc' := 100) dX1_lay_99 rfl ?_
  refine e_iload (pc' := 102) (i := 5) rfl dX1_lay_100 rfl ?_
  refine e_iload (pc' := 104) (i := 8) rfl dX1_lay_102 rfl ?_
  refine e_imul (pc' := 105) dX1_lay_104 rfl ?_
  refine e_isub (pc' := 106) dX1_lay_105 rfl ?_
  refine e_putI (a := 45) (n := 722) (k0 := 2) (pc' := 109) dX1_lay_106 rfl rfl (Nat.le_of_ble_eq_true rfl) (Nat.le_of_ble_eq_true rfl) rfl mw_195 rfl rfl g_pI rfl rfl ?_
  refine e_ltI h (fun I11 h => ?_)
  refine e_aload_n (pc' := 110) (i := 0) rfl rfl dX1_lay_109 rfl ?_
  refine e_aload_n (pc' := 111) (i := 0) rfl rfl dX1_lay_110 rfl ?_
  refine e_getI (a := 45) (n := 720) (k0 := 0) (pc' := 114) dX1_lay_111 rfl rfl (Nat.le_of_ble_eq_true rfl) (Nat.le_of_ble_eq_true rfl) rfl mw_191 rfl ?_
  refine e_aload_n (pc' := 115) (i := 0) rfl rfl dX1_lay_114 rfl ?_
  refine e_getI (a := 45) (n := 720) (k0 := 0) (pc' := 118) dX1_lay_115 rfl rfl (Nat.le_of_ble_eq_true rfl) (Nat.le_of_ble_eq_true rfl) rfl mw_191 rfl ?_
  refine e_imul (pc' := 119) dX1_lay_118 rfl ?_
  refine e_aload_n (pc' := 120) (i := 0) rfl rfl dX1_lay_119 rfl ?_
  refine e_getI (a := 45) (n := 721) (k0 := 1) (pc' := 123) dX1_lay_120 rfl rfl (Nat.le_of_ble_eq_true rfl) (Nat.le_of_ble_eq_true rfl) rfl mw_193 rfl ?_
  refine e_aload_n (pc' := 124) (i := 0) rfl rfl dX1_lay_123 rfl ?_
  refine e_getI (a := 45) (n := 721) (k0 := 1) (pc' := 127) dX1_lay_124 rfl rfl (Nat.le_of_ble_eq_true rfl) (Nat.le_of_ble_eq_true rfl) rfl mw_193 rfl ?_
  refine e_imul (pc' := 128) dX1_lay_127 rfl ?_
  refine e_iadd (pc' := 129) dX1_lay_128 rfl ?_
  refine e_aload_n (pc' := 130) (i := 0) rfl rfl dX1_lay_129 rfl ?_
  refine e_getI (a := 45) (n := 722) (k0 := 2) (pc' := 133) dX1_lay_130 rfl rfl (Nat.le_of_ble_eq_true rfl) (Nat.le_of_ble_eq_true rfl) rfl mw_195 rfl ?_
  refine e_aload_n (pc' := 134) (i := 0) rfl rfl dX1_lay_133 rfl ?_
  refine e_getI (a := 45) (n := 722) (k0 := 2) (pc' := 137) dX1_lay_134 rfl rfl (Nat.le_of_ble_eq_true rfl) (Nat.le_of_ble_eq_true rfl) rfl mw_195 rfl ?_
  refine e_imul (pc' := 138) dX1_lay_137 rfl ?_
  refine e_iadd (pc' := 139) dX1_lay_138 rfl ?_
  refine e_putI (a := 45) (n := 726) (k0 := 6) (pc' := 142) dX1_lay_139 rfl rfl (Nat.le_of_ble_eq_true rfl) (Nat.le_of_ble_eq_true rfl) rfl mw_203 rfl rfl g_pI rfl rfl ?_
  refine e_ltI h (fun I12 h => ?_)
  refine e_aload_n (pc' := 143) (i := 0) rfl rfl dX1_lay_142 rfl ?_
  refine e_getI (a := 45) (n := 726) (k0 := 6) (pc' := 146) dX1_lay_143 rfl rfl (Nat.le_of_ble_eq_true rfl) (Nat.le_of_ble_eq_true rfl) rfl mw_203 rfl ?_
  refine e_if_ne (tgt := 151) (pc' := 149) dX1_lay_146 (by decide) rfl h (fun h => ?_) (fun h => ?_)
  · refine e_aload_n (pc' := 152) (i := 0) rfl rfl dX1_lay_151 rfl ?_
    refine e_iload (pc' := 154) (i := 7) rfl dX1_lay_152 rfl ?_
    refine e_iload (pc' := 156) (i := 9) rfl dX1_lay_154 rfl ?_
    refine e_aload_n (pc' := 157) (i := 0) rfl rfl dX1_lay_156 rfl ?_
    refine e_getI (a := 45) (n := 722) (k0 := 2) (pc' := 160) dX1_lay_157 rfl rfl (Nat.le_of_ble_eq_true rfl) (Nat.le_of_ble_eq_true rfl) rfl mw_195 rfl ?_
    refine e_imul (pc' := 161) dX1_lay_160 rfl ?_
    refine e_iload (pc' := 163) (i := 10) rfl dX1_lay_161 rfl ?_
    refine e_aload_n (pc' := 164) (i := 0) rfl rfl dX1_lay_163 rfl ?_
    refine e_getI (a := 45) (n := 721) (k0 := 1) (pc' := 167) dX1_lay_164 rfl rfl (Nat.le_of_ble_eq_true rfl) (Nat.le_of_ble_eq_true rfl) rfl mw_193 rfl ?_
    refine e_imul (pc' := 168) dX1_lay_167 rfl ?_
    refine e_isub (pc' := 169) dX1_lay_168 rfl ?_
    refine e_imul (pc' := 170) dX1_lay_169 rfl ?_
    refine e_iload (pc' := 172) (i := 11) rfl dX1_lay_170 rfl ?_
    refine e_aload_n (pc' := 173) (i := 0) rfl rfl dX1_lay_172 rfl ?_
    refine e_getI (a := 45) (n := 721) (k0 := 1) (pc' := 176) dX1_lay_173 rfl rfl (Nat.le_of_ble_eq_true rfl) (Nat.le_of_ble_eq_true rfl) rfl mw_193 rfl ?_
    refine e_iload (pc' := 178) (i := 6) rfl dX1_lay_176 rfl ?_
    refine e_imul (pc' := 179) dX1_lay_178 rfl ?_
    refine e_aload_n (pc' := 180) (i := 0) rfl rfl dX1_lay_179 rfl ?_
    refine e_getI (a := 45) (n := 722) (k0 := 2) (pc' := 183) dX1_lay_180 rfl rfl (Nat.le_of_ble_eq_true rfl) (Nat.le_of_ble_eq_true rfl) rfl mw_195 rfl ?_
    refine e_iload (pc' := 185) (i := 5) rfl dX1_lay_183 rfl ?_
    refine e_imul (pc' := 186) dX1_lay_185 rfl ?_
    refine e_isub (pc' := 187) dX1_lay_186 rfl ?_
    refine e_imul (pc' := 188) dX1_lay_187 rfl ?_
    refine e_iadd (pc' := 189) dX1_lay_188 rfl ?_
    refine e_putI (a := 45) (n := 723) (k0 := 3) (pc' := 192) dX1_lay_189 rfl rfl (Nat.le_of_ble_eq_true rfl) (Nat.le_of_ble_eq_true rfl) rfl mw_197 rfl rfl g_pI rfl rfl ?_
    refine e_ltI h (fun I13 h => ?_)
    refine e_aload_n (pc' := 193) (i := 0) rfl rfl dX1_lay_192 rfl ?_
    refine e_iload (pc' := 195) (i := 7) rfl dX1_lay_193 rfl ?_
    refine e_iload (pc' := 197) (i := 10) rfl dX1_lay_195 rfl ?_
    refine e_aload_n (pc' := 198) (i := 0) rfl rfl dX1_lay_197 rfl ?_
    refine e_getI (a := 45) (n := 720) (k0 := 0) (pc' := 201) dX1_lay_198 rfl rfl (Nat.le_of_ble_eq_true rfl) (Nat.le_of_ble_eq_true rfl) rfl mw_191 rfl ?_
    refine e_imul (pc' := 202) dX1_lay_201 rfl ?_
    refine e_iload (pc' := 204) (i := 8) rfl dX1_lay_202 rfl ?_
    refine e_aload_n (pc' := 205) (i := 0) rfl rfl dX1_lay_204 rfl ?_
    refine e_getI (a := 45) (n := 722) (k0 := 2) (pc' := 208) dX1_lay_205 rfl rfl (Nat.le_of_ble_eq_true rfl) (Nat.le_of_ble_eq_true rfl) rfl mw_195 rfl ?_
    refine e_imul (pc' := 209) dX1_lay_208 rfl ?_
    refine e_isub (pc' := 210) dX1_lay_209 rfl ?_
    refine e_imul (pc' := 211) dX1_lay_210 rfl ?_
    refine e_iload (pc' := 213) (i := 11) rfl dX1_lay_211 rfl ?_
    refine e_aload_n (pc' := 214) (i := 0) rfl rfl dX1_lay_213 rfl ?_
    refine e_getI (a := 45) (n := 722) (k0 := 2) (pc' := 217) dX1_lay_214 rfl rfl (Nat.le_of_ble_eq_true rfl) (Nat.le_of_ble_eq_true rfl) rfl mw_195 rfl ?_
    refine e_iload (pc' := 219) (i := 4) rfl dX1_lay_217 rfl ?_
    refine e_imul (pc' := 220) dX1_lay_219 rfl ?_
    refine e_aload_n (pc' := 221) (i := 0) rfl rfl dX1_lay_220 rfl ?_
    refine e_getI (a := 45) (n := 720) (k0 := 0) (pc' := 224) dX1_lay_221 rfl rfl (Nat.le_of_ble_eq_true rfl) (Nat.le_of_ble_eq_true rfl) rfl mw_191 rfl ?_
    refine e_iload (pc' := 226) (i := 6) rfl dX1_lay_224 rfl ?_
    refine e_imul (pc' := 227) dX1_lay_226 rfl ?_
    refine e_isub (pc' := 228) dX1_lay_227 rfl ?_
    refine e_imul (pc' := 229) dX1_lay_228 rfl ?_
    refine e_iadd (pc' := 230) dX1_lay_229 rfl ?_
    refine e_putI (a := 45) (n := 724) (k0 := 4) (pc' := 233) dX1_lay_230 rfl rfl (Nat.le_of_ble_eq_true rfl) (Nat.le_of_ble_eq_true rfl) rfl mw_199 rfl rfl g_pI rfl rfl ?_
    refine e_ltI h (fun I14 h => ?_)
    refine e_aload_n (pc' := 234) (i := 0) rfl rfl dX1_lay_233 rfl ?_
    refine e_iload (pc' := 236) (i := 7) rfl dX1_lay_234 rfl ?_
    refine e_iload (pc' := 238) (i := 8) rfl dX1_lay_236 rfl ?_
    refine e_aload_n (pc' := 239) (i := 0) rfl rfl dX1_lay_238 rfl ?_
    refine e_getI (a := 45) (n := 721) (k0 := 1) (pc' := 242) dX1_lay_239 rfl rfl (Nat.le_of_ble_eq_true rfl) (Nat.le_of_ble_eq_true rfl) rfl mw_193 rfl ?_
    refine e_imul (pc' := 243) dX1_lay_242 rfl ?_
    refine e_iload (pc' := 245) (i := 9) rfl dX1_lay_243 rfl ?_
    refine e_aload_n (pc' := 246) (i := 0) rfl rfl dX1_lay_245 rfl ?_
    refine e_getI (a := 45) (n := 720) (k0 := 0) (pc' := 249) dX1_lay_246 rfl rfl (Nat.le_of_ble_eq_true rfl) (Nat.le_of_ble_eq_true rfl) rfl mw_191 rfl ?_
    refine e_imul (pc' := 250) dX1_lay_249 rfl ?_
    refine e_isub (pc' := 251) dX1_lay_250 rfl ?_
    refine e_imul (pc' := 252) dX1_lay_251 rfl ?_
    refine e_iload (pc' := 254) (i := 11) rfl dX1_lay_252 rfl ?_
    refine e_aload_n (pc' := 255) (i := 0) rfl rfl dX1_lay_254 rfl ?_
    refine e_getI (a := 45) (n := 720) (k0 := 0) (pc' := 258) dX1_lay_255 rfl rfl (Nat.le_of_ble_eq_true rfl) (Nat.le_of_ble_eq_true rfl) rfl mw_191 rfl ?_
    refine e_iload (pc' := 260) (i := 5) rfl dX1_lay_258 rfl ?_
    refine e_imul (pc' := 261) dX1_lay_260 rfl ?_
    refine e_aload_n (pc' := 262) (i := 0) rfl rfl dX1_lay_261 rfl ?_
    refine e_getI (a := 45) (n := 721) (k0 := 1) (pc' := 265) dX1_lay_262 rfl rfl (Nat.le_of_ble_eq_true rfl) (Nat.le_of_ble_eq_true rfl) rfl mw_193 rfl ?_
    refine e_iload (pc' := 267) (i := 4) rfl dX1_lay_265 rfl ?_
    refine e_imul (pc' := 268) dX1_lay_267 rfl ?_
    refine e_isub (pc' := 269) dX1_lay_268 rfl ?_
    refine e_imul (pc' := 270) dX1_lay_269 rfl ?_
    refine e_iadd (pc' := 271) dX1_lay_270 rfl ?_
    refine e_putI (a := 45) (n := 725) (k0 := 5) (pc' := 274) dX1_lay_271 rfl rfl (Nat.le_of_ble_eq_true rfl) (Nat.le_of_ble_eq_true rfl) rfl mw_201 rfl rfl g_pI rfl rfl ?_
    refine e_ltI h (fun I15 h => ?_)
    refine e_aload_n (pc' := 275) (i := 0) rfl rfl dX1_lay_274 rfl ?_
    refine e_iconst (v := (-1)) (pc' := 276) (by decide) dX1_lay_275 rfl ?_
    refine e_putI (a := 45) (n := 727) (k0 := 7) (pc' := 279) dX1_lay_276 rfl rfl (Nat.le_of_ble_eq_true rfl) (Nat.le_of_ble_eq_true rfl) rfl mw_206 rfl rfl g_pI rfl rfl ?_
    refine e_ltI h (fun I16 h => ?_)
    refine e_aload_n (pc' := 280) (i := 0) rfl rfl dX1_lay_279 rfl ?_
    refine e_iconst (v := 0) (pc' := 281) (by decide) dX1_lay_280 rfl ?_
    refine e_putI (a := 45) (n := 728) (k0 := 8) (pc' := 284) dX1_lay_281 rfl rfl (Nat.le_of_ble_eq_true rfl) (Nat.le_of_ble_eq_true rfl) rfl mw_208 rfl rfl g_pI rfl rfl ?_
    refine e_ltI h (fun I17 h => ?_)
    refine e_aload_n (pc' := 285) (i := 0) rfl rfl dX1_lay_284 rfl ?_
    refine e_iconst (v := 1) (pc' := 286) (by decide) dX1_lay_285 rfl ?_
    refine e_putI (a := 45) (n := 729) (k0 := 9) (pc' := 289) dX1_lay_286 rfl rfl (Nat.le_of_ble_eq_true rfl) (Nat.le_of_ble_eq_true rfl) rfl mw_210 rfl rfl g_pI rfl rfl ?_
    refine e_ltI h (fun I18 h => ?_)
    refine e_aload_n (pc' := 290) (i := 0) rfl rfl dX1_lay_289 rfl ?_
    refine e_iconst (v := 0) (pc' := 291) (by decide) dX1_lay_290 rfl ?_
    refine e_putI (a := 45) (n := 730) (k0 := 10) (pc' := 294) dX1_lay_291 rfl rfl (Nat.le_of_ble_eq_true rfl) (Nat.le_of_ble_eq_true rfl) rfl mw_212 rfl rfl g_pI rfl rfl ?_
    refine e_ltI h (fun I19 h => ?_)
    refine e_iconst (v := 1) (pc' := 295) (by decide) dX1_lay_294 rfl ?_
    obtain ⟨rfl, rfl, rfl, rfl⟩ := g_re4 h
    exact e_zret dX1_lay_295 (by decide)
  · refine e_iconst (v := 0) (pc' := 150) (by decide) dX1_lay_149 rfl ?_
    obtain ⟨rfl, rfl, rfl, rfl⟩ := g_re4 h
    exact e_zret dX1_lay_150 (by decide)
set_option maxHeartbeats 4000000 in
set_option maxRecDepth 100000 in
theorem w_X1_isLeftBehind_45_1_p164  : ∀ (I : Nat → Int32) (A : Nat → Nat → Int32) (L : Nat → Int64) (t : (Int32 × gS)), f_X1_isLeftBehind_p164 45 1 I A L = some t → Ev 70 RX1 cX1_isLeftBehind 5 (some .boolean) 0 164 [some (.ref 45), none, none, none, none] [] I A L (some (.int t.1), t.2) := by
  intro  I A L t h
  unfold f_X1_isLeftBehind_p164 at h
  refine e_aload_n (pc' := 165) (i := 0) rfl rfl dX1_isLeftBehind_164 rfl ?_
  refine e_getI (a := 45) (n := 727) (k0 := 7) (pc' := 168) dX1_isLeftBehind_165 rfl rfl (Nat.le_of_ble_eq_true rfl) (Nat.le_of_ble_eq_true rfl) rfl mw_206 rfl ?_
  refine e_aload_n (pc' := 169) (i := 0) rfl rfl dX1_isLeftBehind_168 rfl ?_
  refine e_getI (a := 45) (n := 730) (k0 := 10) (pc' := 172) dX1_isLeftBehind_169 rfl rfl (Nat.le_of_ble_eq_true rfl) (Nat.le_of_ble_eq_true rfl) rfl mw_212 rfl ?_
  refine e_imul (pc' := 173) dX1_isLeftBehind_172 rfl ?_
  refine e_aload_n (pc' := 174) (i := 0) rfl rfl dX1_isLeftBehind_173 rfl ?_
  refine e_getI (a := 45) (n := 729) (k0 := 9) (pc' := 177) dX1_isLeftBehind_174 rfl rfl (Nat.le_of_ble_eq_true rfl) (Nat.le_of_ble_eq_true rfl) rfl mw_210 rfl ?_
  refine e_aload_n (pc' := 178) (i := 0) rfl rfl dX1_isLeftBehind_177 rfl ?_
  refine e_getI (a := 45) (n := 728) (k0 := 8) (pc' := 181) dX1_isLeftBehind_178 rfl rfl (Nat.le_of_ble_eq_true rfl) (Nat.le_of_ble_eq_true rfl) rfl mw_208 rfl ?_
  refine e_imul (pc' := 182) dX1_isLeftBehind_181 rfl ?_
  refine e_icmp_gt (tgt := 189) (pc' := 185) dX1_isLeftBehind_182 (by decide) rfl h (fun h => ?_) (fun h => ?_)
  · refine e_iconst (v := 0) (pc' := 190) (by decide) dX1_isLeftBehind_189 rfl ?_
    obtain rfl := g_re1 h
    exact e_zret dX1_isLeftBehind_190 (by decide)
  · refine e_iconst (v := 1) (pc' := 186) (by decide) dX1_isLeftBehind_185 rfl ?_
    refine e_goto (tgt := 190) dX1_isLeftBehind_186 (by decide) ?_
    obtain rfl := g_re1 h
    exact e_zret dX1_isLeftBehind_190 (by decide)
set_option maxHeartbeats 4000000 in
set_option maxRecDepth 100000 in
theorem w_X1_isLeftBehind_45_1_p131  : ∀ (x3 : Int32) (x4 : Int32) (I : Nat → Int32) (A : Nat → Nat → Int32) (L : Nat → Int64) (t : (Int32 × gS)), f_X1_isLeftBehind_p131 45 1 x3 x4 I A L = some t → Ev 70 RX1 cX1_isLeftBehind 5 (some .boolean) 0 131 [some (.ref 45), none, none, some (.int x3), some (.int x4)] [] I A L (some (.int t.1), t.2) := by
  intro x3 x4 I A L t h
  unfold f_X1_isLeftBehind_p131 at h
  refine e_iload_n (pc' := 132) (i := 3) rfl rfl dX1_isLeftBehind_131 rfl ?_
  refine e_if_ge (tgt := 164) (pc' := 135) dX1_isLeftBehind_132 (by decide) rfl h (fun h => ?_) (fun h => ?_)
  · exact e_weak (lc' := [some (.ref 45), none, none, none, none]) (gle_s (gle_n (gle_n (gle_n (gle_n gle_0))))) (w_X1_isLeftBehind_45_1_p164  _ _ _ _ h)
  · refine e_aload_n (pc' := 136) (i := 0) rfl rfl dX1_isLeftBehind_135 rfl ?_
    refine e_getI (a := 45) (n := 727) (k0 := 7) (pc' := 139) dX1_isLeftBehind_136 rfl rfl (Nat.le_of_ble_eq_true rfl) (Nat.le_of_ble_eq_true rfl) rfl mw_206 rfl ?_
    refine e_iload_n (pc' := 140) (i := 3) rfl rfl dX1_isLeftBehind_139 rfl ?_
    refine e_imul (pc' := 141) dX1_isLeftBehind_140 rfl ?_
    refine e_iload (pc' := 143) (i := 4) rfl dX1_isLeftBehind_141 rfl ?_
    refine e_aload_n (pc' := 144) (i := 0) rfl rfl dX1_isLeftBehind_143 rfl ?_
    refine e_getI (a := 45) (n := 728) (k0 := 8) (pc' := 147) dX1_isLeftBehind_144 rfl rfl (Nat.le_of_ble_eq_true rfl) (Nat.le_of_ble_eq_true rfl) rfl mw_208 rfl ?_
    refine e_imul (pc' := 148) dX1_isLeftBehind_147 rfl ?_
    refine e_icmp_le (tgt := 164) (pc' := 151) dX1_isLeftBehind_148 (by decide) rfl h (fun h => ?_) (fun h => ?_)
    · exact e_weak (lc' := [some (.ref 45), none, none, none, none]) (gle_s (gle_n (gle_n (gle_n (gle_n gle_0))))) (w_X1_isLeftBehind_45_1_p164  _ _ _ _ h)
    · refine e_aload_n (pc' := 152) (i := 0) rfl rfl dX1_isLeftBehind_151 rfl ?_
      refine e_iload (pc' := 154) (i := 4) rfl dX1_isLeftBehind_152 rfl ?_
      refine e_ineg (pc' := 155) dX1_isLeftBehind_154 rfl ?_
      refine e_putI (a := 45) (n := 727) (k0 := 7) (pc' := 158) dX1_isLeftBehind_155 rfl rfl (Nat.le_of_ble_eq_true rfl) (Nat.le_of_ble_eq_true rfl) rfl mw_206 rfl rfl g_pI rfl rfl ?_
      refine e_ltI h (fun I1 h => ?_)
      refine e_aload_n (pc' := 159) (i := 0) rfl rfl dX1_isLeftBehind_158 rfl ?_
      refine e_iload_n (pc' := 160) (i := 3) rfl rfl dX1_isLeftBehind_159 rfl ?_
      refine e_ineg (pc' := 161) dX1_isLeftBehind_160 rfl ?_
      refine e_putI (a := 45) (n := 728) (k0 := 8) (pc' := 164) dX1_isLeftBehind_161 rfl rfl (Nat.le_of_ble_eq_true rfl) (Nat.le_of_ble_eq_true rfl) rfl mw_208 rfl rfl g_pI rfl rfl ?_
      refine e_ltI h (fun I2 h => ?_)
      exact e_weak (lc' := [some (.ref 45), none, none, none, none]) (gle_s (gle_n (gle_n (gle_n (gle_n gle_0))))) (w_X1_isLeftBehind_45_1_p164  _ _ _ _ h)
set_option maxHeartbeats 4000000 in
set_option maxRecDepth 100000 in
theorem c_X1_isLeftBehind_45_1 (a0 : Int32) {I : Nat → Int32} {A : Nat → Nat → Int32} {L : Nat → Int64} {t : Int32} {I' : Nat → Int32} {A' : Nat → Nat → Int32} {L' : Nat → Int64} (h : f_X1_isLeftBehind 45 1 a0 I A L = some (t, I', A', L')) : GM 70 yX1_isLeftBehind cX1_isLeftBehind 5 (some .boolean) 0 [.ref 45, .ref 1, .int a0] I A L (some (.int t), (I', A', L')) := by
  refine gm_of (n := 2) (lc := [some (.ref 45), some (.ref 1), some (.int a0), none, none]) (by decide +kernel) rfl (fun _ => Nat.le_of_ble_eq_true rfl) ?_
  change Ev 70 RX1 cX1_isLeftBehind 5 (some .boolean) 0 0 [some (.ref 45), some (.ref 1), some (.int a0), none, none] [] I A L _
  unfold f_X1_isLeftBehind at h
  refine e_aload_n (pc' := 1) (i := 1) rfl rfl dX1_isLeftBehind_0 rfl ?_
  refine e_getRN (a := 1) (b := 2) (k0 := 0) (pc' := 4) dX1_isLeftBehind_1 rfl rfl (Nat.le_of_ble_eq_true rfl) (Nat.le_of_ble_eq_true rfl) rfl mw_127 rfl ?_
  refine e_iload_n (pc' := 5) (i := 2) rfl rfl dX1_isLeftBehind_4 rfl ?_
  refine e_iald (n := 32) (pc' := 6) dX1_isLeftBehind_5 rfl rfl (Nat.le_of_ble_eq_true rfl) h (fun h => ?_)
  refine e_aload_n (pc' := 7) (i := 0) rfl rfl dX1_isLeftBehind_6 rfl ?_
  refine e_getI (a := 45) (n := 720) (k0 := 0) (pc' := 10) dX1_isLeftBehind_7 rfl rfl (Nat.le_of_ble_eq_true rfl) (Nat.le_of_ble_eq_true rfl) rfl mw_191 rfl ?_
  refine e_imul (pc' := 11) dX1_isLeftBehind_10 rfl ?_
  refine e_aload_n (pc' := 12) (i := 1) rfl rfl dX1_isLeftBehind_11 rfl ?_
  refine e_getRN (a := 1) (b := 3) (k0 := 1) (pc' := 15) dX1_isLeftBehind_12 rfl rfl (Nat.le_of_ble_eq_true rfl) (Nat.le_of_ble_eq_true rfl) rfl mw_131 rfl ?_
  refine e_iload_n (pc' := 16) (i := 2) rfl rfl dX1_isLeftBehind_15 rfl ?_
  refine e_iald (n := 32) (pc' := 17) dX1_isLeftBehind_16 rfl rfl (Nat.le_of_ble_eq_true rfl) h (fun h => ?_)
  refine e_aload_n (pc' := 18) (i := 0) rfl rfl dX1_isLeftBehind_17 rfl ?_
  refine e_getI (a := 45) (n := 721) (k0 := 1) (pc' := 21) dX1_isLeftBehind_18 rfl rfl (Nat.le_of_ble_eq_true rfl) (Nat.le_of_ble_eq_true rfl) rfl mw_193 rfl ?_
  refine e_imul (pc' := 22) dX1_isLeftBehind_21 rfl ?_
  refine e_iadd (pc' := 23) dX1_isLeftBehind_22 rfl ?_
  refine e_aload_n (pc' := 24) (i := 1) rfl rfl dX1_isLeftBehind_23 rfl ?_
  refine e_getRN (a := 1) (b := 4) (k0 := 2) (pc' := 27) dX1_isLeftBehind_24 rfl rfl (Nat.le_of_ble_eq_true rfl) (Nat.le_of_ble_eq_true rfl) rfl mw_135 rfl ?_
  refine e_iload_n (pc' := 28) (i := 2) rfl rfl dX1_isLeftBehind_27 rfl ?_
  refine e_iald (n := 32) (pc' := 29) dX1_isLeftBehind_28 rfl rfl (Nat.le_of_ble_eq_true rfl) h (fun h => ?_)
  refine e_aload_n (pc' := 30) (i := 0) rfl rfl dX1_isLeftBehind_29 rfl ?_
  refine e_getI (a := 45) (n := 722) (k0 := 2) (pc' := 33) dX1_isLeftBehind_30 rfl rfl (Nat.le_of_ble_eq_true rfl) (Nat.le_of_ble_eq_true rfl) rfl mw_195 rfl ?_
  refine e_imul (pc' := 34) dX1_isLeftBehind_33 rfl ?_
  refine e_iadd (pc' := 35) dX1_isLeftBehind_34 rfl ?_
  refine e_lt h (fun v1 h => ?_)
  refine e_istore_n (pc' := 36) (i := 3) (lc' := [some (.ref 45), some (.ref 1), some (.int a0), some (.int v1), none]) rfl dX1_isLeftBehind_35 rfl (Nat.le_of_ble_eq_true rfl) rfl rfl ?_
  refine e_aload_n (pc' := 37) (i := 1) rfl rfl dX1_isLeftBehind_36 rfl ?_
  refine e_getRN (a := 1) (b := 5) (k0 := 3) (pc' := 40) dX1_isLeftBehind_37 rfl rfl (Nat.le_of_ble_eq_true rfl) (Nat.le_of_ble_eq_true rfl) rfl mw_139 rfl ?_
  refine e_iload_n (pc' := 41) (i := 2) rfl rfl dX1_isLeftBehind_40 rfl ?_
  refine e_iald (n := 32) (pc' := 42) dX1_isLeftBehind_41 rfl rfl (Nat.le_of_ble_eq_true rfl) h (fun h => ?_)
  refine e_aload_n (pc' := 43) (i := 0) rfl rfl dX1_isLeftBehind_42 rfl ?_
  refine e_getI (a := 45) (n := 726) (k0 := 6) (pc' := 46) dX1_isLeftBehind_43 rfl rfl (Nat.le_of_ble_eq_true rfl) (Nat.le_of_ble_eq_true rfl) rfl mw_203 rfl ?_
  refine e_imul (pc' := 47) dX1_isLeftBehind_46 rfl ?_
  refine e_aload_n (pc' := 48) (i := 1) rfl rfl dX1_isLeftBehind_47 rfl ?_
  refine e_getRN (a := 1) (b := 2) (k0 := 0) (pc' := 51) dX1_isLeftBehind_48 rfl rfl (Nat.le_of_ble_eq_true rfl) (Nat.le_of_ble_eq_true rfl) rfl mw_127 rfl ?_
  refine e_iload_n (pc' := 52) (i := 2) rfl rfl dX1_isLeftBehind_51 rfl ?_
  refine e_iald (n := 32) (pc' := 53) dX1_isLeftBehind_52 rfl rfl (Nat.le_of_ble_eq_true rfl) h (fun h => ?_)
  refine e_aload_n (pc' := 54) (i := 0) rfl rfl dX1_isLeftBehind_53 rfl ?_
  refine e_getI (a := 45) (n := 723) (k0 := 3) (pc' := 57) dX1_isLeftBehind_54 rfl rfl (Nat.le_of_ble_eq_true rfl) (Nat.le_of_ble_eq_true rfl) rfl mw_197 rfl ?_
  refine e_imul (pc' := 58) dX1_isLeftBehind_57 rfl ?_
  refine e_isub (pc' := 59) dX1_isLeftBehind_58 rfl ?_
  refine e_aload_n (pc' := 60) (i := 1) rfl rfl dX1_isLeftBehind_59 rfl ?_
  refine e_getRN (a := 1) (b := 3) (k0 := 1) (pc' := 63) dX1_isLeftBehind_60 rfl rfl (Nat.le_of_ble_eq_true rfl) (Nat.le_of_ble_eq_true rfl) rfl mw_131 rfl ?_
  refine e_iload_n (pc' := 64) (i := 2) rfl rfl dX1_isLeftBehind_63 rfl ?_
  refine e_iald (n := 32) (pc' := 65) dX1_isLeftBehind_64 rfl rfl (Nat.le_of_ble_eq_true rfl) h (fun h => ?_)
  refine e_aload_n (pc' := 66) (i := 0) rfl rfl dX1_isLeftBehind_65 rfl ?_
  refine e_getI (a := 45) (n := 724) (k0 := 4) (pc' := 69) dX1_isLeftBehind_66 rfl rfl (Nat.le_of_ble_eq_true rfl) (Nat.le_of_ble_eq_true rfl) rfl mw_199 rfl ?_
  refine e_imul (pc' := 70) dX1_isLeftBehind_69 rfl ?_
  refine e_isub (pc' := 71) dX1_isLeftBehind_70 rfl ?_
  refine e_aload_n (pc' := 72) (i := 1) rfl rfl dX1_isLeftBehind_71 rfl ?_
  refine e_getRN (a := 1) (b := 4) (k0 := 2) (pc' := 75) dX1_isLeftBehind_72 rfl rfl (Nat.le_of_ble_eq_true rfl) (Nat.le_of_ble_eq_true rfl) rfl mw_135 rfl ?_
  refine e_iload_n (pc' := 76) (i := 2) rfl rfl dX1_isLeftBehind_75 rfl ?_
  refine e_iald (n := 32) (pc' := 77) dX1_isLeftBehind_76 rfl rfl (Nat.le_of_ble_eq_true rfl) h (fun h => ?_)
  refine e_aload_n (pc' := 78) (i := 0) rfl rfl dX1_isLeftBehind_77 rfl ?_
  refine e_getI (a := 45) (n := 725) (k0 := 5) (pc' := 81) dX1_isLeftBehind_78 rfl rfl (Nat.le_of_ble_eq_true rfl) (Nat.le_of_ble_eq_true rfl) rfl mw_201 rfl ?_
  refine e_imul (pc' := 82) dX1_isLeftBehind_81 rfl ?_
  refine e_isub (pc' := 83) dX1_isLeftBehind_82 rfl ?_
  refine e_lt h (fun v2 h => ?_)
  refine e_istore (pc' := 85) (i := 4) (lc' := [some (.ref 45), some (.ref 1), some (.int a0), some (.int v1), some (.int v2)]) dX1_isLeftBehind_83 rfl (Nat.le_of_ble_eq_true rfl) rfl rfl ?_
  refine e_iload_n (pc' := 86) (i := 3) rfl rfl dX1_isLeftBehind_85 rfl ?_
  refine e_if_ne (tgt := 100) (pc' := 89) dX1_isLeftBehind_86 (by decide) rfl h (fun h => ?_) (fun h => ?_)
  · refine e_iload_n (pc' := 101) (i := 3) rfl rfl dX1_isLeftBehind_100 rfl ?_
    refine e_if_le (tgt := 131) (pc' := 104) dX1_isLeftBehind_101 (by decide) rfl h (fun h => ?_) (fun h => ?_)
    · exact e_weak (lc' := [some (.ref 45), none, none, some (.int v1), some (.int v2)]) (gle_s (gle_n (gle_n (gle_s (gle_s gle_0))))) (w_X1_isLeftBehind_45_1_p131  _ _ _ _ _ _ h)
    · refine e_iload (pc' := 106) (i := 4) rfl dX1_isLeftBehind_104 rfl ?_
      refine e_aload_n (pc' := 107) (i := 0) rfl rfl dX1_isLeftBehind_106 rfl ?_
      refine e_getI (a := 45) (n := 730) (k0 := 10) (pc' := 110) dX1_isLeftBehind_107 rfl rfl (Nat.le_of_ble_eq_true rfl) (Nat.le_of_ble_eq_true rfl) rfl mw_212 rfl ?_
      refine e_imul (pc' := 111) dX1_isLeftBehind_110 rfl ?_
      refine e_aload_n (pc' := 112) (i := 0) rfl rfl dX1_isLeftBehind_111 rfl ?_
      refine e_getI (a := 45) (n := 729) (k0 := 9) (pc' := 115) dX1_isLeftBehind_112 rfl rfl (Nat.le_of_ble_eq_true rfl) (Nat.le_of_ble_eq_true rfl) rfl mw_210 rfl ?_
      refine e_iload_n (pc' := 116) (i := 3) rfl rfl dX1_isLeftBehind_115 rfl ?_
      refine e_imul (pc' := 117) dX1_isLeftBehind_116 rfl ?_
      refine e_icmp_ge (tgt := 131) (pc' := 120) dX1_isLeftBehind_117 (by decide) rfl h (fun h => ?_) (fun h => ?_)
      · exact e_weak (lc' := [some (.ref 45), none, none, some (.int v1), some (.int v2)]) (gle_s (gle_n (gle_n (gle_s (gle_s gle_0))))) (w_X1_isLeftBehind_45_1_p131  _ _ _ _ _ _ h)
      · refine e_aload_n (pc' := 121) (i := 0) rfl rfl dX1_isLeftBehind_120 rfl ?_
        refine e_iload (pc' := 123) (i := 4) rfl dX1_isLeftBehind_121 rfl ?_
        refine e_putI (a := 45) (n := 729) (k0 := 9) (pc' := 126) dX1_isLeftBehind_123 rfl rfl (Nat.le_of_ble_eq_true rfl) (Nat.le_of_ble_eq_true rfl) rfl mw_210 rfl rfl g_pI rfl rfl ?_
        refine e_ltI h (fun I3 h => ?_)
        refine e_aload_n (pc' := 127) (i := 0) rfl rfl dX1_isLeftBehind_126 rfl ?_
        refine e_iload_n (pc' := 128) (i := 3) rfl rfl dX1_isLeftBehind_127 rfl ?_
        refine e_putI (a := 45) (n := 730) (k0 := 10) (pc' := 131) dX1_isLeftBehind_128 rfl rfl (Nat.le_of_ble_eq_true rfl) (Nat.le_of_ble_eq_true rfl) rfl mw_212 rfl rfl g_pI rfl rfl ?_
        refine e_ltI h (fun I4 h => ?_)
        exact e_weak (lc' := [some (.ref 45), none, none, some (.int v1), some (.int v2)]) (gle_s (gle_n (gle_n (gle_s (gle_s gle_0))))) (w_X1_isLeftBehind_45_1_p131  _ _ _ _ _ _ h)
  · refine e_iload (pc' := 91) (i := 4) rfl dX1_isLeftBehind_89 rfl ?_
    refine e_if_lt (tgt := 98) (pc' := 94) dX1_isLeftBehind_91 (by decide) rfl h (fun h => ?_) (fun h => ?_)
    · refine e_iconst (v := 0) (pc' := 99) (by decide) dX1_isLeftBehind_98 rfl ?_
      obtain ⟨rfl, rfl, rfl, rfl⟩ := g_re4 h
      exact e_zret dX1_isLeftBehind_99 (by decide)
    · refine e_iconst (v := 1) (pc' := 95) (by decide) dX1_isLeftBehind_94 rfl ?_
      refine e_goto (tgt := 99) dX1_isLeftBehind_95 (by decide) ?_
      obtain ⟨rfl, rfl, rfl, rfl⟩ := g_re4 h
      exact e_zret dX1_isLeftBehind_99 (by decide)
