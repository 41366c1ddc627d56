set_option maxHeartbeats 4000000 in
set_option maxRecDepth 100000 in
theorem w_X6_findSpare_p18  : ∀ (n : Nat) (x2 : Int32) (I : Nat → Int32) (A : Nat → Nat → Int32) (L : Nat → Int64) (t : gS), f_X6_findSpare_p18 n x2 I A L = some t → Ev 70 RX6 cX6_findSpare 4 none 5 18 [some (.ref 0), some (.ref 38), some (.int x2), none] [] I A L (none, t) := by
  intro n
  induction n with
  | zero =>
    intro x2 I A L t h
    cases h
  | succ n ih =>
    intro x2 I A L t h
    rw [f_X6_findSpare_p18] at h
    refine e_iload_n (pc' := 19) (i := 2) rfl rfl dX6_findSpare_18 rfl ?_
    refine e_aload_n (pc' := 20) (i := 0) rfl rfl dX6_findSpare_19 rfl ?_
    refine e_getR (a := 0) (b := 1) (k0 := 0) (pc' := 23) dX6_findSpare_20 rfl rfl (Nat.le_of_ble_eq_true rfl) (Nat.le_of_ble_eq_true rfl) rfl mw_335 rfl ?_
    refine e_getIN (a := 1) (n := 20) (k0 := 4) (pc' := 26) dX6_findSpare_23 rfl rfl (Nat.le_of_ble_eq_true rfl) (Nat.le_of_ble_eq_true rfl) rfl mw_144 rfl ?_
    refine e_icmp_ge (tgt := 60) (pc' := 29) dX6_findSpare_26 (by decide) rfl h (fun h => ?_) (fun h => ?_)
    · refine e_aload_n (pc' := 61) (i := 0) rfl rfl dX6_findSpare_60 rfl ?_
      refine e_iconst (v := 1) (pc' := 62) (by decide) dX6_findSpare_61 rfl ?_
      refine e_putI (a := 0) (n := 8) (k0 := 8) (pc' := 65) dX6_findSpare_62 rfl rfl (Nat.le_of_ble_eq_true rfl) (Nat.le_of_ble_eq_true rfl) rfl mw_343 rfl rfl g_pZ rfl rfl ?_
      refine e_ltI h (fun I1 h => ?_)
      obtain rfl := g_re1 h
      exact e_vret dX6_findSpare_65
    · refine e_aload_n (pc' := 30) (i := 0) rfl rfl dX6_findSpare_29 rfl ?_
      refine e_iload_n (pc' := 31) (i := 2) rfl rfl dX6_findSpare_30 rfl ?_
      refine e_aload_n (pc' := 32) (i := 1) rfl rfl dX6_findSpare_31 rfl ?_
      obtain ⟨v6, I3, A4, L5, hF2, h⟩ := g_b2_e h
      refine e_callV_i (pc' := 35) dX6_findSpare_32 rfl mw_704 mv_X6_cornersWithout rfl (Nat.le_of_ble_eq_true rfl) (Nat.le_of_ble_eq_true rfl) rfl (Nat.le_of_ble_eq_true rfl) (Nat.le_of_ble_eq_true rfl) rfl (c_X6_cornersWithout_38 _ hF2) rfl ?_
      refine e_istore_n (pc' := 36) (i := 3) (lc' := [some (.ref 0), some (.ref 38), some (.int x2), some (.int v6)]) rfl dX6_findSpare_35 rfl (Nat.le_of_ble_eq_true rfl) rfl rfl ?_
      refine e_iload_n (pc' := 37) (i := 3) rfl rfl dX6_findSpare_36 rfl ?_
      refine e_aload_n (pc' := 38) (i := 0) rfl rfl dX6_findSpare_37 rfl ?_
      refine e_getI (a := 0) (n := 10) (k0 := 10) (pc' := 41) dX6_findSpare_38 rfl rfl (Nat.le_of_ble_eq_true rfl) (Nat.le_of_ble_eq_true rfl) rfl mw_345 rfl ?_
      refine e_icmp_le (tgt := 54) (pc' := 44) dX6_findSpare_41 (by decide) rfl h (fun h => ?_) (fun h => ?_)
      · refine e_iinc (pc' := 57) (v := (x2 + 1)) (lc' := [some (.ref 0), some (.ref 38), some (.int (x2 + 1)), some (.int v6)]) dX6_findSpare_54 rfl rfl rfl (Nat.le_of_ble_eq_true rfl) rfl rfl ?_
        refine e_goto (tgt := 18) dX6_findSpare_57 (by decide) ?_
        exact e_weak (lc' := [some (.ref 0), some (.ref 38), some (.int (x2 + 1)), none]) (gle_s (gle_s (gle_s (gle_n gle_0)))) (ih _ _ _ _ _ h)
      · refine e_aload_n (pc' := 45) (i := 0) rfl rfl dX6_findSpare_44 rfl ?_
        refine e_iload_n (pc' := 46) (i := 3) rfl rfl dX6_findSpare_45 rfl ?_
        refine e_putI (a := 0) (n := 10) (k0 := 10) (pc' := 49) dX6_findSpare_46 rfl rfl (Nat.le_of_ble_eq_true rfl) (Nat.le_of_ble_eq_true rfl) rfl mw_345 rfl rfl g_pI rfl rfl ?_
        refine e_ltI h (fun I7 h => ?_)
        refine e_aload_n (pc' := 50) (i := 0) rfl rfl dX6_findSpare_49 rfl ?_
        refine e_iload_n (pc' := 51) (i := 2) rfl rfl dX6_findSpare_50 rfl ?_
        refine e_putI (a := 0) (n := 9) (k0 := 9) (pc' := 54) dX6_findSpare_51 rfl rfl (Nat.le_of_ble_eq_true rfl) (Nat.le_of_ble_eq_true rfl) rfl mw_344 rfl rfl g_pI rfl rfl ?_
        refine e_ltI h (fun I8 h => ?_)
        refine e_iinc (pc' := 57) (v := (x2 + 1)) (lc' := [some (.ref 0), some (.ref 38), some (.int (x2 + 1)), some (.int v6)]) dX6_findSpare_54 rfl rfl rfl (Nat.le_of_ble_eq_true rfl) rfl rfl ?_
        refine e_goto (tgt := 18) dX6_findSpare_57 (by decide) ?_
        exact e_weak (lc' := [some (.ref 0), some (.ref 38), some (.int (x2 + 1)), none]) (gle_s (gle_s (gle_s (gle_n gle_0)))) (ih _ _ _ _ _ h)
set_option maxHeartbeats 4000000 in
set_option maxRecDepth 100000 in
theorem c_X6_findSpare  {I : Nat → Int32} {A : Nat → Nat → Int32} {L : Nat → Int64} {I' : Nat → Int32} {A' : Nat → Nat → Int32} {L' : Nat → Int64} (h : f_X6_findSpare   I A L = some (I', A', L')) : GM 70 yX6_findSpare cX6_findSpare 4 none 5 [.ref 0] I A L (none, (I', A', L')) := by
  refine gm_of (n := 3) (lc := [some (.ref 0), none, none, none]) (by decide +kernel) rfl (fun _ => Nat.le_of_ble_eq_true rfl) ?_
  change Ev 70 RX6 cX6_findSpare 4 none 5 0 [some (.ref 0), none, none, none] [] I A L _
  unfold f_X6_findSpare at h
  refine e_aload_n (pc' := 1) (i := 0) rfl rfl dX6_findSpare_0 rfl ?_
  obtain ⟨I2, A3, L4, hF1, h⟩ := g_b1_e h
  refine e_callV_a (pc' := 4) dX6_findSpare_1 rfl mw_503 mv_X6_crystal rfl (Nat.le_of_ble_eq_true rfl) (Nat.le_of_ble_eq_true rfl) rfl (Nat.le_of_ble_eq_true rfl) (Nat.le_of_ble_eq_true rfl) rfl (c_X6_crystal hF1) rfl ?_
  refine e_astore_n (pc' := 5) (i := 1) (lc' := [some (.ref 0), some (.ref 38), none, none]) rfl dX6_findSpare_4 rfl (Nat.le_of_ble_eq_true rfl) rfl rfl ?_
  refine e_aload_n (pc' := 6) (i := 0) rfl rfl dX6_findSpare_5 rfl ?_
  refine e_iconst (v := (-1)) (pc' := 7) (by decide) dX6_findSpare_6 rfl ?_
  refine e_putI (a := 0) (n := 9) (k0 := 9) (pc' := 10) dX6_findSpare_7 rfl rfl (Nat.le_of_ble_eq_true rfl) (Nat.le_of_ble_eq_true rfl) rfl mw_344 rfl rfl g_pI rfl rfl ?_
  refine e_ltI h (fun I5 h => ?_)
  refine e_aload_n (pc' := 11) (i := 0) rfl rfl dX6_findSpare_10 rfl ?_
  refine e_iconst (v := (-1)) (pc' := 12) (by decide) dX6_findSpare_11 rfl ?_
  refine e_putI (a := 0) (n := 10) (k0 := 10) (pc' := 15) dX6_findSpare_12 rfl rfl (Nat.le_of_ble_eq_true rfl) (Nat.le_of_ble_eq_true rfl) rfl mw_345 rfl rfl g_pI rfl rfl ?_
  refine e_ltI h (fun I6 h => ?_)
  refine e_bipush (v := 6) (pc' := 17) (by decide) dX6_findSpare_15 rfl ?_
  refine e_istore_n (pc' := 18) (i := 2) (lc' := [some (.ref 0), some (.ref 38), some (.int 6), none]) rfl dX6_findSpare_17 rfl (Nat.le_of_ble_eq_true rfl) rfl rfl ?_
  exact e_weak (lc' := [some (.ref 0), some (.ref 38), some (.int 6), none]) (gle_s (gle_s (gle_s (gle_n gle_0)))) (w_X6_findSpare_p18  _ _ _ _ _ _ h)
set_option maxHeartbeats 4000000 in
set_option maxRecDepth 100000 in
theorem w_X6_spare_p44  : ∀ (x1 : Int32) (I : Nat → Int32) (A : Nat → Nat → Int32) (L : Nat → Int64) (t : (Int32 × gS)), f_X6_spare_p44 x1 I A L = some t → Ev 70 RX6 cX6_spare 2 (some .int) 6 44 [some (.ref 0), some (.int x1)] [] I A L (some (.int t.1), t.2) := by
  intro x1 I A L t h
  unfold f_X6_spare_p44 at h
  refine e_iload_n (pc' := 45) (i := 1) rfl rfl dX6_spare_44 rfl ?_
  refine e_if_ne (tgt := 55) (pc' := 48) dX6_spare_45 (by decide) rfl h (fun h => ?_) (fun h => ?_)
  · refine e_aload_n (pc' := 56) (i := 0) rfl rfl dX6_spare_55 rfl ?_
    refine e_getI (a := 0) (n := 10) (k0 := 10) (pc' := 59) dX6_spare_56 rfl rfl (Nat.le_of_ble_eq_true rfl) (Nat.le_of_ble_eq_true rfl) rfl mw_345 rfl ?_
    obtain rfl := g_re1 h
    exact e_iret dX6_spare_59
  · refine e_aload_n (pc' := 49) (i := 0) rfl rfl dX6_spare_48 rfl ?_
    refine e_getI (a := 0) (n := 9) (k0 := 9) (pc' := 52) dX6_spare_49 rfl rfl (Nat.le_of_ble_eq_true rfl) (Nat.le_of_ble_eq_true rfl) rfl mw_344 rfl ?_
    refine e_goto (tgt := 59) dX6_spare_52 (by decide) ?_
    obtain rfl := g_re1 h
    exact e_iret dX6_spare_59
set_option maxHeartbeats 4000000 in
set_option maxRecDepth 100000 in
theorem w_X6_spare_p9  : ∀ (I : Nat → Int32) (A : Nat → Nat → Int32) (L : Nat → Int64) (t : (Int32 × gS)), f_X6_spare_p9 I A L = some t → Ev 70 RX6 cX6_spare 2 (some .int) 6 9 [some (.ref 0), none] [] I A L (some (.int t.1), t.2) := by
  intro  I A L t h
  unfold f_X6_spare_p9 at h
  refine e_aload_n (pc' := 10) (i := 0) rfl rfl dX6_spare_9 rfl ?_
  refine e_bipush (v := (-2)) (pc' := 12) (by decide) dX6_spare_10 rfl ?_
  obtain ⟨v5, I2, A3, L4, hF1, h⟩ := g_b2_e h
  refine e_callV_i (pc' := 15) dX6_spare_12 rfl mw_397 mv_X6_refuseBad rfl (Nat.le_of_ble_eq_true rfl) (Nat.le_of_ble_eq_true rfl) rfl (Nat.le_of_ble_eq_true rfl) (Nat.le_of_ble_eq_true rfl) rfl (c_X6_refuseBad _ hF1) rfl ?_
  obtain rfl := g_re1 h
  exact e_iret dX6_spare_15
set_option maxHeartbeats 4000000 in
set_option maxRecDepth 100000 in
theorem c_X6_spare (a0 : Int32) {I : Nat → Int32} {A : Nat → Nat → Int32} {L : Nat → Int64} {t : Int32} {I' : Nat → Int32} {A' : Nat → Nat → Int32} {L' : Nat → Int64} (h : f_X6_spare  a0 I A L = some (t, I', A', L')) : GM 70 yX6_spare cX6_spare 2 (some .int) 6 [.ref 0, .int a0] I A L (some (.int t), (I', A', L')) := by
  refine gm_of (n := 0) (lc := [some (.ref 0), some (.int a0)]) (by decide +kernel) rfl (fun _ => Nat.le_of_ble_eq_true rfl) ?_
  change Ev 70 RX6 cX6_spare 2 (some .int) 6 0 [some (.ref 0), some (.int a0)] [] I A L _
  unfold f_X6_spare at h
  refine e_iload_n (pc' := 1) (i := 1) rfl rfl dX6_spare_0 rfl ?_
  refine e_if_lt (tgt := 9) (pc' := 4) dX6_spare_1 (by decide) rfl h (fun h => ?_) (fun h => ?_)
  · exact e_weak (lc' := [some (.ref 0), none]) (gle_s (gle_n gle_0)) (w_X6_spare_p9  _ _ _ _ h)
  · refine e_iload_n (pc' := 5) (i := 1) rfl rfl dX6_spare_4 rfl ?_
    refine e_iconst (v := 1) (pc' := 6) (by decide) dX6_spare_5 rfl ?_
    refine e_icmp_le (tgt := 16) (pc' := 9) dX6_spare_6 (by decide) rfl h (fun h => ?_) (fun h => ?_)
    · refine e_aload_n (pc' := 17) (i := 0) rfl rfl dX6_spare_16 rfl ?_
      refine e_getR (a := 0) (b := 1) (k0 := 0) (pc' := 20) dX6_spare_17 rfl rfl (Nat.le_of_ble_eq_true rfl) (Nat.le_of_ble_eq_true rfl) rfl mw_335 rfl ?_
      refine e_getIN (a := 1) (n := 20) (k0 := 4) (pc' := 23) dX6_spare_20 rfl rfl (Nat.le_of_ble_eq_true rfl) (Nat.le_of_ble_eq_true rfl) rfl mw_144 rfl ?_
      refine e_bipush (v := 6) (pc' := 25) (by decide) dX6_spare_23 rfl ?_
      refine e_icmp_gt (tgt := 33) (pc' := 28) dX6_spare_25 (by decide) rfl h (fun h => ?_) (fun h => ?_)
      · refine e_aload_n (pc' := 34) (i := 0) rfl rfl dX6_spare_33 rfl ?_
        refine e_getI (a := 0) (n := 8) (k0 := 8) (pc' := 37) dX6_spare_34 rfl rfl (Nat.le_of_ble_eq_true rfl) (Nat.le_of_ble_eq_true rfl) rfl mw_343 rfl ?_
        refine e_if_ne (tgt := 44) (pc' := 40) dX6_spare_37 (by decide) rfl h (fun h => ?_) (fun h => ?_)
        · exact e_weak (lc' := [some (.ref 0), some (.int a0)]) (gle_s (gle_s gle_0)) (w_X6_spare_p44  _ _ _ _ _ h)
        · refine e_aload_n (pc' := 41) (i := 0) rfl rfl dX6_spare_40 rfl ?_
          obtain ⟨I2, A3, L4, hF1, h⟩ := g_b1_e h
          refine e_callV_v (pc' := 44) dX6_spare_41 rfl mw_700 mv_X6_findSpare rfl (Nat.le_of_ble_eq_true rfl) (Nat.le_of_ble_eq_true rfl) rfl (Nat.le_of_ble_eq_true rfl) (Nat.le_of_ble_eq_true rfl) rfl (c_X6_findSpare hF1) rfl ?_
          exact e_weak (lc' := [some (.ref 0), some (.int a0)]) (gle_s (gle_s gle_0)) (w_X6_spare_p44  _ _ _ _ _ h)
      · refine e_aload_n (pc' := 29) (i := 0) rfl rfl dX6_spare_28 rfl ?_
        obtain ⟨v9, I6, A7, L8, hF5, h⟩ := g_b2_e h
        refine e_callV_i (pc' := 32) dX6_spare_29 rfl mw_623 mv_X6_refuseNo rfl (Nat.le_of_ble_eq_true rfl) (Nat.le_of_ble_eq_true rfl) rfl (Nat.le_of_ble_eq_true rfl) (Nat.le_of_ble_eq_true rfl) rfl (c_X6_refuseNo hF5) rfl ?_
        obtain ⟨rfl, rfl, rfl, rfl⟩ := g_re4 h
        exact e_iret dX6_spare_32
    · exact e_weak (lc' := [some (.ref 0), none]) (gle_s (gle_n gle_0)) (w_X6_spare_p9  _ _ _ _ h)
set_option maxHeartbeats 4000000 in
set_option maxRecDepth 100000 in
theorem w_X6_type_p10  : ∀ (I : Nat → Int32) (A : Nat → Nat → Int32) (L : Nat → Int64) (t : (Int32 × gS)), f_X6_type_p10 I A L = some t → Ev 70 RX6 cX6_type 2 (some .int) 1 10 [some (.ref 0), none] [] I A L (some (.int t.1), t.2) := by
  intro  I A L t h
  unfold f_X6_type_p10 at h
  refine e_aload_n (pc' := 11) (i := 0) rfl rfl dX6_type_10 rfl ?_
  refine e_bipush (v := (-2)) (pc' := 13) (by decide) dX6_type_11 rfl ?_
  obtain ⟨v5, I2, A3, L4, hF1, h⟩ := g_b2_e h
  refine e_callV_i (pc' := 16) dX6_type_13 rfl mw_397 mv_X6_refuseBad rfl (Nat.le_of_ble_eq_true rfl) (Nat.le_of_ble_eq_true rfl) rfl (Nat.le_of_ble_eq_true rfl) (Nat.le_of_ble_eq_true rfl) rfl (c_X6_refuseBad _ hF1) rfl ?_
  obtain rfl := g_re1 h
  exact e_iret dX6_type_16
set_option maxHeartbeats 4000000 in
set_option maxRecDepth 100000 in
theorem c_X6_type (a0 : Int32) {I : Nat → Int32} {A : Nat → Nat → Int32} {L : Nat → Int64} {t : Int32} {I' : Nat → Int32} {A' : Nat → Nat → Int32} {L' : Nat → Int64} (h : f_X6_type  a0 I A L = some (t, I', A', L')) : GM 70 yX6_type cX6_type 2 (some .int) 1 [.ref 0, .int a0] I A L (some (.int t), (I', A', L')) := by
  refine gm_of (n := 0) (lc := [some (.ref 0), some (.int a0)]) (by decide +kernel) rfl (fun _ => Nat.le_of_ble_eq_true rfl) ?_
  change Ev 70 RX6 cX6_type 2 (some .int) 1 0 [some (.ref 0), some (.int a0)] [] I A L _
  unfold f_X6_type at h
  refine e_iload_n (pc' := 1) (i := 1) rfl rfl dX6_type_0 rfl ?_
  refine e_if_lt (tgt := 10) (pc' := 4) dX6_type_1 (by decide) rfl h (fun h => ?_) (fun h => ?_)
  · exact e_weak (lc' := [some (.ref 0), none]) (gle_s (gle_n gle_0)) (w_X6_type_p10  _ _ _ _ h)
  · refine e_iload_n (pc' := 5) (i := 1) rfl rfl dX6_type_4 rfl ?_
    refine e_bipush (v := 127) (pc' := 7) (by decide) dX6_type_5 rfl ?_
    refine e_icmp_le (tgt := 17) (pc' := 10) dX6_type_7 (by decide) rfl h (fun h => ?_) (fun h => ?_)
    · refine e_aload_n (pc' := 18) (i := 0) rfl rfl dX6_type_17 rfl ?_
      refine e_getR (a := 0) (b := 57) (k0 := 6) (pc' := 21) dX6_type_18 rfl rfl (Nat.le_of_ble_eq_true rfl) (Nat.le_of_ble_eq_true rfl) rfl mw_341 rfl ?_
      refine e_getIN (a := 57) (n := 913) (k0 := 1) (pc' := 24) dX6_type_21 rfl rfl (Nat.le_of_ble_eq_true rfl) (Nat.le_of_ble_eq_true rfl) rfl mw_299 rfl ?_
      refine e_bipush (v := 120) (pc' := 26) (by decide) dX6_type_24 rfl ?_
      refine e_icmp_lt (tgt := 34) (pc' := 29) dX6_type_26 (by decide) rfl h (fun h => ?_) (fun h => ?_)
      · refine e_aload_n (pc' := 35) (i := 0) rfl rfl dX6_type_34 rfl ?_
        refine e_getR (a := 0) (b := 57) (k0 := 6) (pc' := 38) dX6_type_35 rfl rfl (Nat.le_of_ble_eq_true rfl) (Nat.le_of_ble_eq_true rfl) rfl mw_341 rfl ?_
        refine e_getRN (a := 57) (b := 58) (k0 := 0) (pc' := 41) dX6_type_38 rfl rfl (Nat.le_of_ble_eq_true rfl) (Nat.le_of_ble_eq_true rfl) rfl mw_297 rfl ?_
        refine e_aload_n (pc' := 42) (i := 0) rfl rfl dX6_type_41 rfl ?_
        refine e_getR (a := 0) (b := 57) (k0 := 6) (pc' := 45) dX6_type_42 rfl rfl (Nat.le_of_ble_eq_true rfl) (Nat.le_of_ble_eq_true rfl) rfl mw_341 rfl ?_
        refine e_getIN (a := 57) (n := 913) (k0 := 1) (pc' := 48) dX6_type_45 rfl rfl (Nat.le_of_ble_eq_true rfl) (Nat.le_of_ble_eq_true rfl) rfl mw_299 rfl ?_
        refine e_iload_n (pc' := 49) (i := 1) rfl rfl dX6_type_48 rfl ?_
        refine e_i2b (pc' := 50) dX6_type_49 rfl ?_
        refine e_bast (n := 120) (pc' := 51) dX6_type_50 rfl rfl (Nat.le_of_ble_eq_true rfl) h (fun h => ?_)
        refine e_ltA h (fun A1 h => ?_)
        refine e_aload_n (pc' := 52) (i := 0) rfl rfl dX6_type_51 rfl ?_
        refine e_getR (a := 0) (b := 57) (k0 := 6) (pc' := 55) dX6_type_52 rfl rfl (Nat.le_of_ble_eq_true rfl) (Nat.le_of_ble_eq_true rfl) rfl mw_341 rfl ?_
        refine e_dup (pc' := 56) rfl dX6_type_55 rfl ?_
        refine e_getIN (a := 57) (n := 913) (k0 := 1) (pc' := 59) dX6_type_56 rfl rfl (Nat.le_of_ble_eq_true rfl) (Nat.le_of_ble_eq_true rfl) rfl mw_299 rfl ?_
        refine e_iconst (v := 1) (pc' := 60) (by decide) dX6_type_59 rfl ?_
        refine e_iadd (pc' := 61) dX6_type_60 rfl ?_
        refine e_putIN (a := 57) (n := 913) (k0 := 1) (pc' := 64) dX6_type_61 rfl rfl (Nat.le_of_ble_eq_true rfl) (Nat.le_of_ble_eq_true rfl) rfl mw_299 rfl rfl g_pI rfl rfl ?_
        refine e_ltI h (fun I2 h => ?_)
        refine e_aload_n (pc' := 65) (i := 0) rfl rfl dX6_type_64 rfl ?_
        refine e_getR (a := 0) (b := 57) (k0 := 6) (pc' := 68) dX6_type_65 rfl rfl (Nat.le_of_ble_eq_true rfl) (Nat.le_of_ble_eq_true rfl) rfl mw_341 rfl ?_
        refine e_getIN (a := 57) (n := 913) (k0 := 1) (pc' := 71) dX6_type_68 rfl rfl (Nat.le_of_ble_eq_true rfl) (Nat.le_of_ble_eq_true rfl) rfl mw_299 rfl ?_
        obtain ⟨rfl, rfl, rfl, rfl⟩ := g_re4 h
        exact e_iret dX6_type_71
      · refine e_aload_n (pc' := 30) (i := 0) rfl rfl dX6_type_29 rfl ?_
        obtain ⟨v7, I4, A5, L6, hF3, h⟩ := g_b2_e h
        refine e_callV_i (pc' := 33) dX6_type_30 rfl mw_401 mv_X6_refuseFull rfl (Nat.le_of_ble_eq_true rfl) (Nat.le_of_ble_eq_true rfl) rfl (Nat.le_of_ble_eq_true rfl) (Nat.le_of_ble_eq_true rfl) rfl (c_X6_refuseFull hF3) rfl ?_
        obtain ⟨rfl, rfl, rfl, rfl⟩ := g_re4 h
        exact e_iret dX6_type_33
    · exact e_weak (lc' := [some (.ref 0), none]) (gle_s (gle_n gle_0)) (w_X6_type_p10  _ _ _ _ h)
set_option maxHeartbeats 4000000 in
set_option maxRecDepth 100000 in
theorem c_X6_clear  {I : Nat → Int32} {A : Nat → Nat → Int32} {L : Nat → Int64} {t : Int32} {I' : Nat → Int32} {A' : Nat → Nat → Int32} {L' : Nat → Int64} (h : f_X6_clear   I A L = some (t, I', A', L')) : GM 70 yX6_clear cX6_clear 2 (some .int) 0 [.ref 0] I A L (some (.int t), (I', A', L')) := by
  refine gm_of (n := 1) (lc := [some (.ref 0), none]) (by decide +kernel) rfl (fun _ => Nat.le_of_ble_eq_true rfl) ?_
  change Ev 70 RX6 cX6_clear 2 (some .int) 0 0 [some (.ref 0), none] [] I A L _
  unfold f_X6_clear at h
  refine e_aload_n (pc' := 1) (i := 0) rfl rfl dX6_clear_0 rfl ?_
  refine e_getR (a := 0) (b := 57) (k0 := 6) (pc' := 4) dX6_clear_1 rfl rfl (Nat.le_of_ble_eq_true rfl) (Nat.le_of_ble_eq_true rfl) rfl mw_341 rfl ?_
  refine e_getIN (a := 57) (n := 913) (k0 := 1) (pc' := 7) dX6_clear_4 rfl rfl (Nat.le_of_ble_eq_true rfl) (Nat.le_of_ble_eq_true rfl) rfl mw_299 rfl ?_
  refine e_istore_n (pc' := 8) (i := 1) (lc' := [some (.ref 0), some (.int (I 913))]) rfl dX6_clear_7 rfl (Nat.le_of_ble_eq_true rfl) rfl rfl ?_
  refine e_aload_n (pc' := 9) (i := 0) rfl rfl dX6_clear_8 rfl ?_
  refine e_getR (a := 0) (b := 57) (k0 := 6) (pc' := 12) dX6_clear_9 rfl rfl (Nat.le_of_ble_eq_true rfl) (Nat.le_of_ble_eq_true rfl) rfl mw_341 rfl ?_
  refine e_iconst (v := 0) (pc' := 13) (by decide) dX6_clear_12 rfl ?_
  refine e_putIN (a := 57) (n := 913) (k0 := 1) (pc' := 16) dX6_clear_13 rfl rfl (Nat.le_of_ble_eq_true rfl) (Nat.le_of_ble_eq_true rfl) rfl mw_299 rfl rfl g_pI rfl rfl ?_
  refine e_ltI h (fun I1 h => ?_)
  refine e_iload_n (pc' := 17) (i := 1) rfl rfl dX6_clear_16 rfl ?_
  obtain ⟨rfl, rfl, rfl, rfl⟩ := g_re4 h
  exact e_iret dX6_clear_17
set_option maxHeartbeats 4000000 in
set_option maxRecDepth 100000 in
theorem c_X2_copyFrom_6_1  {I : Nat → Int32} {A : Nat → Nat → Int32} {L : Nat → Int64} {I' : Nat → Int32} {A' : Nat → Nat → Int32} {L' : Nat → Int64} (h : f_X2_copyFrom 6 1  I A L = some (I', A', L')) : GM 70 yX2_copyFrom cX2_copyFrom 2 none 1 [.ref 6, .ref 1] I A L (none, (I', A', L')) := by
  refine gm_of (n := 0) (lc := [some (.ref 6), some (.ref 1)]) (by decide +kernel) rfl (fun _ => Nat.le_of_ble_eq_true rfl) ?_
  change Ev 70 RX2 cX2_copyFrom 2 none 1 0 [some (.ref 6), some (.ref 1)] [] I A L _
  unfold f_X2_copyFrom at h
  refine e_aload_n (pc' := 1) (i := 1) rfl rfl dX2_copyFrom_0 rfl ?_
  refine e_ifnonnull (tgt := 5) dX2_copyFrom_1 (by decide) ?_
  refine e_aload_n (pc' := 6) (i := 0) rfl rfl dX2_copyFrom_5 rfl ?_
  refine e_aload_n (pc' := 7) (i := 1) rfl rfl dX2_copyFrom_6 rfl ?_
  refine e_getI (a := 1) (n := 20) (k0 := 4) (pc' := 10) dX2_copyFrom_7 rfl rfl (Nat.le_of_ble_eq_true rfl) (Nat.le_of_ble_eq_true rfl) rfl mw_142 rfl ?_
  refine e_putI (a := 6) (n := 100) (k0 := 4) (pc' := 13) dX2_copyFrom_10 rfl rfl (Nat.le_of_ble_eq_true rfl) (Nat.le_of_ble_eq_true rfl) rfl mw_142 rfl rfl g_pI rfl rfl ?_
  refine e_ltI h (fun I1 h => ?_)
  refine e_aload_n (pc' := 14) (i := 1) rfl rfl dX2_copyFrom_13 rfl ?_
  refine e_getR (a := 1) (b := 2) (k0 := 0) (pc' := 17) dX2_copyFrom_14 rfl rfl (Nat.le_of_ble_eq_true rfl) (Nat.le_of_ble_eq_true rfl) rfl mw_126 rfl ?_
  refine e_iconst (v := 0) (pc' := 18) (by decide) dX2_copyFrom_17 rfl ?_
  refine e_aload_n (pc' := 19) (i := 0) rfl rfl dX2_copyFrom_18 rfl ?_
  refine e_getR (a := 6) (b := 7) (k0 := 0) (pc' := 22) dX2_copyFrom_19 rfl rfl (Nat.le_of_ble_eq_true rfl) (Nat.le_of_ble_eq_true rfl) rfl mw_126 rfl ?_
  refine e_iconst (v := 0) (pc' := 23) (by decide) dX2_copyFrom_22 rfl ?_
  refine e_aload_n (pc' := 24) (i := 0) rfl rfl dX2_copyFrom_23 rfl ?_
  refine e_getI (a := 6) (n := 100) (k0 := 4) (pc' := 27) dX2_copyFrom_24 rfl rfl (Nat.le_of_ble_eq_true rfl) (Nat.le_of_ble_eq_true rfl) rfl mw_142 rfl ?_
  refine e_copy (pc' := 30) (n0 := 32) (n1 := 32) dX2_copyFrom_27 rfl mw_417 mw_419 mw_418 mw_108 (Nat.le_of_ble_eq_true rfl) (Nat.le_of_ble_eq_true rfl) rfl (Nat.le_of_ble_eq_true rfl) rfl (Nat.le_of_ble_eq_true rfl) h (fun h => ?_)
  refine e_ltA h (fun A2 h => ?_)
  refine e_aload_n (pc' := 31) (i := 1) rfl rfl dX2_copyFrom_30 rfl ?_
  refine e_getR (a := 1) (b := 3) (k0 := 1) (pc' := 34) dX2_copyFrom_31 rfl rfl (Nat.le_of_ble_eq_true rfl) (Nat.le_of_ble_eq_true rfl) rfl mw_130 rfl ?_
  refine e_iconst (v := 0) (pc' := 35) (by decide) dX2_copyFrom_34 rfl ?_
  refine e_aload_n (pc' := 36) (i := 0) rfl rfl dX2_copyFrom_35 rfl ?_
  refine e_getR (a := 6) (b := 8) (k0 := 1) (pc' := 39) dX2_copyFrom_36 rfl rfl (Nat.le_of_ble_eq_true rfl) (Nat.le_of_ble_eq_true rfl) rfl mw_130 rfl ?_
  refine e_iconst (v := 0) (pc' := 40) (by decide) dX2_copyFrom_39 rfl ?_
  refine e_aload_n (pc' := 41) (i := 0) rfl rfl dX2_copyFrom_40 rfl ?_
  refine e_getI (a := 6) (n := 100) (k0 := 4) (pc' := 44) dX2_copyFrom_41 rfl rfl (Nat.le_of_ble_eq_true rfl) (Nat.le_of_ble_eq_true rfl) rfl mw_142 rfl ?_
  refine e_copy (pc' := 47) (n0 := 32) (n1 := 32) dX2_copyFrom_44 rfl mw_417 mw_419 mw_418 mw_108 (Nat.le_of_ble_eq_true rfl) (Nat.le_of_ble_eq_true rfl) rfl (Nat.le_of_ble_eq_true rfl) rfl (Nat.le_of_ble_eq_true rfl) h (fun h => ?_)
  refine e_ltA h (fun A3 h => ?_)
  refine e_aload_n (pc' := 48) (i := 1) rfl rfl dX2_copyFrom_47 rfl ?_
  refine e_getR (a := 1) (b := 4) (k0 := 2) (pc' := 51) dX2_copyFrom_48 rfl rfl (Nat.le_of_ble_eq_true rfl) (Nat.le_of_ble_eq_true rfl) rfl mw_134 rfl ?_
  refine e_iconst (v := 0) (pc' := 52) (by decide) dX2_copyFrom_51 rfl ?_
  refine e_aload_n (pc' := 53) (i := 0) rfl rfl dX2_copyFrom_52 rfl ?_
  refine e_getR (a := 6) (b := 9) (k0 := 2) (pc' := 56) dX2_copyFrom_53 rfl rfl (Nat.le_of_ble_eq_true rfl) (Nat.le_of_ble_eq_true rfl) rfl mw_134 rfl ?_
  refine e_iconst (v := 0) (pc' := 57) (by decide) dX2_copyFrom_56 rfl ?_
  refine e_aload_n (pc' := 58) (i := 0) rfl rfl dX2_copyFrom_57 rfl ?_
  refine e_getI (a := 6) (n := 100) (k0 := 4) (pc' := 61) dX2_copyFrom_58 rfl rfl (Nat.le_of_ble_eq_true rfl) (Nat.le_of_ble_eq_true rfl) rfl mw_142 rfl ?_
  refine e_copy (pc' := 64) (n0 := 32) (n1 := 32) dX2_copyFrom_61 rfl mw_417 mw_419 mw_418 mw_108 (Nat.le_of_ble_eq_true rfl) (Nat.le_of_ble_eq_true rfl) rfl (Nat.le_of_ble_eq_true rfl) rfl (Nat.le_of_ble_eq_true rfl) h (fun h => ?_)
  refine e_ltA h (fun A4 h => ?_)
  refine e_aload_n (pc' := 65) (i := 1) rfl rfl dX2_copyFrom_64 rfl ?_
  refine e_getR (a := 1) (b := 5) (k0 := 3) (pc' := 68) dX2_copyFrom_65 rfl rfl (Nat.le_of_ble_eq_true rfl) (Nat.le_of_ble_eq_true rfl) rfl mw_138 rfl ?_
  refine e_iconst (v := 0) (pc' := 69) (by decide) dX2_copyFrom_68 rfl ?_
  refine e_aload_n (pc' := 70) (i := 0) rfl rfl dX2_copyFrom_69 rfl ?_
  refine e_getR (a := 6) (b := 10) (k0 := 3) (pc' := 73) dX2_copyFrom_70 rfl rfl (Nat.le_of_ble_eq_true rfl) (Nat.le_of_ble_eq_true rfl) rfl mw_138 rfl ?_
  refine e_iconst (v := 0) (pc' := 74) (by decide) dX2_copyFrom_73 rfl ?_
  refine e_aload_n (pc' := 75) (i := 0) rfl rfl dX2_copyFrom_74 rfl ?_
  refine e_getI (a := 6) (n := 100) (k0 := 4) (pc' := 78) dX2_copyFrom_75 rfl rfl (Nat.le_of_ble_eq_true rfl) (Nat.le_of_ble_eq_true rfl) rfl mw_142 rfl ?_
  refine e_copy (pc' := 81) (n0 := 32) (n1 := 32) dX2_copyFrom_78 rfl mw_417 mw_419 mw_418 mw_108 (Nat.le_of_ble_eq_true rfl) (Nat.le_of_ble_eq_true rfl) rfl (Nat.le_of_ble_eq_true rfl) rfl (Nat.le_of_ble_eq_true rfl) h (fun h => ?_)
  refine e_ltA h (fun A5 h => ?_)
  obtain ⟨rfl, rfl, rfl⟩ := g_re3 h
  exact e_vret dX2_copyFrom_81
set_option maxHeartbeats 4000000 in
set_option maxRecDepth 100000 in
theorem w_X3_look_p38  : ∀ (I : Nat → Int32) (A : Nat → Nat → Int32) (L : Nat → Int64) (t : (Int32 × gS)), f_X3_look_p38 I A L = some t → Ev 70 RX3 cX3_look 1 (some .int) 0 38 [some (.ref 57)] [] I A L (some (.int t.1), t.2) := by
  intro  I A L t h
  unfold f_X3_look_p38 at h
  refine e_aload_n (pc' := 39) (i := 0) rfl rfl dX3_look_38 rfl ?_
  refine e_getI (a := 57) (n := 914) (k0 := 2) (pc' := 42) dX3_look_39 rfl rfl (Nat.le_of_ble_eq_true rfl) (Nat.le_of_ble_eq_true rfl) rfl mw_300 rfl ?_
  refine e_aload_n (pc' := 43) (i := 0) rfl rfl dX3_look_42 rfl ?_
  refine e_getI (a := 57) (n := 913) (k0 := 1) (pc' := 46) dX3_look_43 rfl rfl (Nat.le_of_ble_eq_true rfl) (Nat.le_of_ble_eq_true rfl) rfl mw_298 rfl ?_
  refine e_icmp_ge (tgt := 61) (pc' := 49) dX3_look_46 (by decide) rfl h (fun h => ?_) (fun h => ?_)
  · refine e_iconst (v := (-1)) (pc' := 62) (by decide) dX3_look_61 rfl ?_
    obtain rfl := g_re1 h
    exact e_iret dX3_look_62
  · refine e_aload_n (pc' := 50) (i := 0) rfl rfl dX3_look_49 rfl ?_
    refine e_getR (a := 57) (b := 58) (k0 := 0) (pc' := 53) dX3_look_50 rfl rfl (Nat.le_of_ble_eq_true rfl) (Nat.le_of_ble_eq_true rfl) rfl mw_296 rfl ?_
    refine e_aload_n (pc' := 54) (i := 0) rfl rfl dX3_look_53 rfl ?_
    refine e_getI (a := 57) (n := 914) (k0 := 2) (pc' := 57) dX3_look_54 rfl rfl (Nat.le_of_ble_eq_true rfl) (Nat.le_of_ble_eq_true rfl) rfl mw_300 rfl ?_
    refine e_bald (n := 120) (pc' := 58) dX3_look_57 rfl rfl (Nat.le_of_ble_eq_true rfl) h (fun h => ?_)
    refine e_goto (tgt := 62) dX3_look_58 (by decide) ?_
    obtain rfl := g_re1 h
    exact e_iret dX3_look_62
set_option maxHeartbeats 4000000 in
set_option maxRecDepth 100000 in
theorem w_X3_look_p0  : ∀ (n : Nat) (I : Nat → Int32) (A : Nat → Nat → Int32) (L : Nat → Int64) (t : (Int32 × gS)), f_X3_look_p0 n I A L = some t → Ev 70 RX3 cX3_look 1 (some .int) 0 0 [some (.ref 57)] [] I A L (some (.int t.1), t.2) := by
  intro n
  induction n with
  | zero =>
    intro  I A L t h
    cases h
  | succ n ih =>
    intro  I A L t h
    rw [f_X3_look_p0] at h
    refine e_aload_n (pc' := 1) (i := 0) rfl rfl dX3_look_0 rfl ?_
    refine e_getI (a := 57) (n := 914) (k0 := 2) (pc' := 4) dX3_look_1 rfl rfl (Nat.le_of_ble_eq_true rfl) (Nat.le_of_ble_eq_true rfl) rfl mw_300 rfl ?_
    refine e_aload_n (pc' := 5) (i := 0) rfl rfl dX3_look_4 rfl ?_
    refine e_getI (a := 57) (n := 913) (k0 := 1) (pc' := 8) dX3_look_5 rfl rfl (Nat.le_of_ble_eq_true rfl) (Nat.le_of_ble_eq_true rfl) rfl mw_298 rfl ?_
    refine e_icmp_ge (tgt := 38) (pc' := 11) dX3_look_8 (by decide) rfl h (fun h => ?_) (fun h => ?_)
    · exact e_weak (lc' := [some (.ref 57)]) (gle_s gle_0) (w_X3_look_p38  _ _ _ _ h)
    · refine e_aload_n (pc' := 12) (i := 0) rfl rfl dX3_look_11 rfl ?_
      refine e_getR (a := 57) (b := 58) (k0 := 0) (pc' := 15) dX3_look_12 rfl rfl (Nat.le_of_ble_eq_true rfl) (Nat.le_of_ble_eq_true rfl) rfl mw_296 rfl ?_
      refine e_aload_n (pc' := 16) (i := 0) rfl rfl dX3_look_15 rfl ?_
      refine e_getI (a := 57) (n := 914) (k0 := 2) (pc' := 19) dX3_look_16 rfl rfl (Nat.le_of_ble_eq_true rfl) (Nat.le_of_ble_eq_true rfl) rfl mw_300 rfl ?_
      refine e_bald (n := 120) (pc' := 20) dX3_look_19 rfl rfl (Nat.le_of_ble_eq_true rfl) h (fun h => ?_)
      refine e_bipush (v := 32) (pc' := 22) (by decide) dX3_look_20 rfl ?_
      refine e_icmp_ne (tgt := 38) (pc' := 25) dX3_look_22 (by decide) rfl h (fun h => ?_) (fun h => ?_)
      · exact e_weak (lc' := [some (.ref 57)]) (gle_s gle_0) (w_X3_look_p38  _ _ _ _ h)
      · refine e_aload_n (pc' := 26) (i := 0) rfl rfl dX3_look_25 rfl ?_
        refine e_dup (pc' := 27) rfl dX3_look_26 rfl ?_
        refine e_getI (a := 57) (n := 914) (k0 := 2) (pc' := 30) dX3_look_27 rfl rfl (Nat.le_of_ble_eq_true rfl) (Nat.le_of_ble_eq_true rfl) rfl mw_300 rfl ?_
        refine e_iconst (v := 1) (pc' := 31) (by decide) dX3_look_30 rfl ?_
        refine e_iadd (pc' := 32) dX3_look_31 rfl ?_
        refine e_putI (a := 57) (n := 914) (k0 := 2) (pc' := 35) dX3_look_32 rfl rfl (Nat.le_of_ble_eq_true rfl) (Nat.le_of_ble_eq_true rfl) rfl mw_300 rfl rfl g_pI rfl rfl ?_
        refine e_ltI h (fun I1 h => ?_)
        refine e_goto (tgt := 0) dX3_look_35 (by decide) ?_
        exact e_weak (lc' := [some (.ref 57)]) (gle_s gle_0) (ih _ _ _ _ h)
set_option maxHeartbeats 4000000 in
set_option maxRecDepth 100000 in
theorem c_X3_look  {I : Nat → Int32} {A : Nat → Nat → Int32} {L : Nat → Int64} {t : Int32} {I' : Nat → Int32} {A' : Nat → Nat → Int32} {L' : Nat → Int64} (h : f_X3_look   I A L = some (t, I', A', L')) : GM 70 yX3_look cX3_look 1 (some .int) 0 [.ref 57] I A L (some (.int t), (I', A', L')) := by
  refine gm_of (n := 0) (lc := [some (.ref 57)]) (by decide +kernel) rfl (fun _ => Nat.le_of_ble_eq_true rfl) ?_
  change Ev 70 RX3 cX3_look 1 (some .int) 0 0 [some (.ref 57)] [] I A L _
  unfold f_X3_look at h
  exact e_weak (lc' := [some (.ref 57)]) (gle_s gle_0) (w_X3_look_p0  _ _ _ _ _ h)
set_option maxHeartbeats 4000000 in
set_option maxRecDepth 100000 in
theorem w_X3_readFigure_p36  : ∀ (x1 : Int32) (x2 : Int32) (I : Nat → Int32) (A : Nat → Nat → Int32) (L : Nat → Int64) (t : (Int32 × gS)), f_X3_readFigure_p36 x1 x2 I A L = some t → Ev 70 RX3 cX3_readFigure 3 (some .boolean) 1 36 [some (.ref 57), some (.int x1), some (.int x2)] [] I A L (some (.int t.1), t.2) := by
  intro x1 x2 I A L t h
  unfold f_X3_readFigure_p36 at h
  refine e_iload_n (pc' := 37) (i := 1) rfl rfl dX3_readFigure_36 rfl ?_
  refine e_bipush (v := 48) (pc' := 39) (by decide) dX3_readFigure_37 rfl ?_
  refine e_icmp_lt (tgt := 48) (pc' := 42) dX3_readFigure_39 (by decide) rfl h (fun h => ?_) (fun h => ?_)
  · refine e_iconst (v := 0) (pc' := 49) (by decide) dX3_readFigure_48 rfl ?_
    obtain rfl := g_re1 h
    exact e_zret dX3_readFigure_49 (by decide)
  · refine e_iload_n (pc' := 43) (i := 1) rfl rfl dX3_readFigure_42 rfl ?_
    refine e_bipush (v := 51) (pc' := 45) (by decide) dX3_readFigure_43 rfl ?_
    refine e_icmp_le (tgt := 50) (pc' := 48) dX3_readFigure_45 (by decide) rfl h (fun h => ?_) (fun h => ?_)
    · refine e_aload_n (pc' := 51) (i := 0) rfl rfl dX3_readFigure_50 rfl ?_
      refine e_iload_n (pc' := 52) (i := 2) rfl rfl dX3_readFigure_51 rfl ?_
      refine e_if_eq (tgt := 62) (pc' := 55) dX3_readFigure_52 (by decide) rfl h (fun h => ?_) (fun h => ?_)
      · refine e_iload_n (pc' := 63) (i := 1) rfl rfl dX3_readFigure_62 rfl ?_
        refine e_bipush (v := 48) (pc' := 65) (by decide) dX3_readFigure_63 rfl ?_
        refine e_isub (pc' := 66) dX3_readFigure_65 rfl ?_
        refine e_putI (a := 57) (n := 920) (k0 := 8) (pc' := 69) dX3_readFigure_66 rfl rfl (Nat.le_of_ble_eq_true rfl) (Nat.le_of_ble_eq_true rfl) rfl mw_307 rfl rfl g_pI rfl rfl ?_
        refine e_ltI h (fun I1 h => ?_)
        refine e_aload_n (pc' := 70) (i := 0) rfl rfl dX3_readFigure_69 rfl ?_
        refine e_dup (pc' := 71) rfl dX3_readFigure_70 rfl ?_
        refine e_getI (a := 57) (n := 914) (k0 := 2) (pc' := 74) dX3_readFigure_71 rfl rfl (Nat.le_of_ble_eq_true rfl) (Nat.le_of_ble_eq_true rfl) rfl mw_300 rfl ?_
        refine e_iconst (v := 1) (pc' := 75) (by decide) dX3_readFigure_74 rfl ?_
        refine e_iadd (pc' := 76) dX3_readFigure_75 rfl ?_
        refine e_putI (a := 57) (n := 914) (k0 := 2) (pc' := 79) dX3_readFigure_76 rfl rfl (Nat.le_of_ble_eq_true rfl) (Nat.le_of_ble_eq_true rfl) rfl mw_300 rfl rfl g_pI rfl rfl ?_
        refine e_ltI h (fun I2 h => ?_)
        refine e_iconst (v := 1) (pc' := 80) (by decide) dX3_readFigure_79 rfl ?_
        obtain rfl := g_re1 h
        exact e_zret dX3_readFigure_80 (by decide)
      · refine e_bipush (v := 48) (pc' := 57) (by decide) dX3_readFigure_55 rfl ?_
        refine e_iload_n (pc' := 58) (i := 1) rfl rfl dX3_readFigure_57 rfl ?_
        refine e_isub (pc' := 59) dX3_readFigure_58 rfl ?_
        refine e_goto (tgt := 66) dX3_readFigure_59 (by decide) ?_
        refine e_putI (a := 57) (n := 920) (k0 := 8) (pc' := 69) dX3_readFigure_66 rfl rfl (Nat.le_of_ble_eq_true rfl) (Nat.le_of_ble_eq_true rfl) rfl mw_307 rfl rfl g_pI rfl rfl ?_
        refine e_ltI h (fun I3 h => ?_)
        refine e_aload_n (pc' := 70) (i := 0) rfl rfl dX3_readFigure_69 rfl ?_
        refine e_dup (pc' := 71) rfl dX3_readFigure_70 rfl ?_
        refine e_getI (a := 57) (n := 914) (k0 := 2) (pc' := 74) dX3_readFigure_71 rfl rfl (Nat.le_of_ble_eq_true rfl) (Nat.le_of_ble_eq_true rfl) rfl mw_300 rfl ?_
        refine e_iconst (v := 1) (pc' := 75) (by decide) dX3_readFigure_74 rfl ?_
        refine e_iadd (pc' := 76) dX3_readFigure_75 rfl ?_
        refine e_putI (a := 57) (n := 914) (k0 := 2) (pc' := 79) dX3_readFigure_76 rfl rfl (Nat.le_of_ble_eq_true rfl) (Nat.le_of_ble_eq_true rfl) rfl mw_300 rfl rfl g_pI rfl rfl ?_
        refine e_ltI h (fun I4 h => ?_)
        refine e_iconst (v := 1) (pc' := 80) (by decide) dX3_readFigure_79 rfl ?_
        obtain rfl := g_re1 h
        exact e_zret dX3_readFigure_80 (by decide)
    · refine e_iconst (v := 0) (pc' := 49) (by decide) dX3_readFigure_48 rfl ?_
      obtain rfl := g_re1 h
      exact e_zret dX3_readFigure_49 (by decide)
set_option maxHeartbeats 4000000 in
set_option maxRecDepth 100000 in
theorem w_X3_readFigure_p16  : ∀ (x1 : Int32) (s0 : Int32) (I : Nat → Int32) (A : Nat → Nat → Int32) (L : Nat → Int64) (t : (Int32 × gS)), f_X3_readFigure_p16 x1 s0 I A L = some t → Ev 70 RX3 cX3_readFigure 3 (some .boolean) 1 16 [some (.ref 57), some (.int x1), none] [.int s0] I A L (some (.int t.1), t.2) := by
  intro x1 s0 I A L t h
  unfold f_X3_readFigure_p16 at h
  refine e_istore_n (pc' := 17) (i := 2) (lc' := [some (.ref 57), some (.int x1), some (.int s0)]) rfl dX3_readFigure_16 rfl (Nat.le_of_ble_eq_true rfl) rfl rfl ?_
  refine e_iload_n (pc' := 18) (i := 2) rfl rfl dX3_readFigure_17 rfl ?_
  refine e_if_eq (tgt := 36) (pc' := 21) dX3_readFigure_18 (by decide) rfl h (fun h => ?_) (fun h => ?_)
  · exact e_weak (lc' := [some (.ref 57), some (.int x1), some (.int s0)]) (gle_s (gle_s (gle_s gle_0))) (w_X3_readFigure_p36  _ _ _ _ _ _ h)
  · refine e_aload_n (pc' := 22) (i := 0) rfl rfl dX3_readFigure_21 rfl ?_
    refine e_dup (pc' := 23) rfl dX3_readFigure_22 rfl ?_
    refine e_getI (a := 57) (n := 914) (k0 := 2) (pc' := 26) dX3_readFigure_23 rfl rfl (Nat.le_of_ble_eq_true rfl) (Nat.le_of_ble_eq_true rfl) rfl mw_300 rfl ?_
    refine e_iconst (v := 1) (pc' := 27) (by decide) dX3_readFigure_26 rfl ?_
    refine e_iadd (pc' := 28) dX3_readFigure_27 rfl ?_
    refine e_putI (a := 57) (n := 914) (k0 := 2) (pc' := 31) dX3_readFigure_28 rfl rfl (Nat.le_of_ble_eq_true rfl) (Nat.le_of_ble_eq_true rfl) rfl mw_300 rfl rfl g_pI rfl rfl ?_
    refine e_ltI h (fun I1 h => ?_)
    refine e_aload_n (pc' := 32) (i := 0) rfl rfl dX3_readFigure_31 rfl ?_
    obtain ⟨v6, I3, A4, L5, hF2, h⟩ := g_b2_e h
    refine e_callV_i (pc' := 35) dX3_readFigure_32 rfl mw_737 mv_X3_look rfl (Nat.le_of_ble_eq_true rfl) (Nat.le_of_ble_eq_true rfl) rfl (Nat.le_of_ble_eq_true rfl) (Nat.le_of_ble_eq_true rfl) rfl (c_X3_look hF2) rfl ?_
    refine e_istore_n (pc' := 36) (i := 1) (lc' := [some (.ref 57), some (.int v6), some (.int s0)]) rfl dX3_readFigure_35 rfl (Nat.le_of_ble_eq_true rfl) rfl rfl ?_
    exact e_weak (lc' := [some (.ref 57), some (.int v6), some (.int s0)]) (gle_s (gle_s (gle_s gle_0))) (w_X3_readFigure_p36  _ _ _ _ _ _ h)
set_option maxHeartbeats 4000000 in
set_option maxRecDepth 100000 in
theorem c_X3_readFigure  {I : Nat → Int32} {A : Nat → Nat → Int32} {L : Nat → Int64} {t : Int32} {I' : Nat → Int32} {A' : Nat → Nat → Int32} {L' : Nat → Int64} (h : f_X3_readFigure   I A L = some (t, I', A', L')) : GM 70 yX3_readFigure cX3_readFigure 3 (some .boolean) 1 [.ref 57] I A L (some (.int t), (I', A', L')) := by
  refine gm_of (n := 2) (lc := [some (.ref 57), none, none]) (by decide +kernel) rfl (fun _ => Nat.le_of_ble_eq_true rfl) ?_
  change Ev 70 RX3 cX3_readFigure 3 (some .boolean) 1 0 [some (.ref 57), none, none] [] I A L _
  unfold f_X3_readFigure at h
  refine e_aload_n (pc' := 1) (i := 0) rfl rfl dX3_readFigure_0 rfl ?_
  obtain ⟨v5, I2, A3, L4, hF1, h⟩ := g_b2_e h
  refine e_callV_i (pc' := 4) dX3_readFigure_1 rfl mw_737 mv_X3_look rfl (Nat.le_of_ble_eq_true rfl) (Nat.le_of_ble_eq_true rfl) rfl (Nat.le_of_ble_eq_true rfl) (Nat.le_of_ble_eq_true rfl) rfl (c_X3_look hF1) rfl ?_
  refine e_istore_n (pc' := 5) (i := 1) (lc' := [some (.ref 57), some (.int v5), none]) rfl dX3_readFigure_4 rfl (Nat.le_of_ble_eq_true rfl) rfl rfl ?_
  refine e_iload_n (pc' := 6) (i := 1) rfl rfl dX3_readFigure_5 rfl ?_
  refine e_bipush (v := 45) (pc' := 8) (by decide) dX3_readFigure_6 rfl ?_
  refine e_icmp_ne (tgt := 15) (pc' := 11) dX3_readFigure_8 (by decide) rfl h (fun h => ?_) (fun h => ?_)
  · refine e_iconst (v := 0) (pc' := 16) (by decide) dX3_readFigure_15 rfl ?_
    exact e_weak (lc' := [some (.ref 57), some (.int v5), none]) (gle_s (gle_s (gle_n gle_0))) (w_X3_readFigure_p16  _ _ _ _ _ _ h)
  · refine e_iconst (v := 1) (pc' := 12) (by decide) dX3_readFigure_11 rfl ?_
    refine e_goto (tgt := 16) dX3_readFigure_12 (by decide) ?_
    exact e_weak (lc' := [some (.ref 57), some (.int v5), none]) (gle_s (gle_s (gle_n gle_0))) (w_X3_readFigure_p16  _ _ _ _ _ _ h)
set_option maxHeartbeats 4000000 in
set_option maxRecDepth 100000 in
theorem c_X3_readSign  {I : Nat → Int32} {A : Nat → Nat → Int32} {L : Nat → Int64} {t : Int32} {I' : Nat → Int32} {A' : Nat → Nat → Int32} {L' : Nat → Int64} (h : f_X3_readSign   I A L = some (t, I', A', L')) : GM 70 yX3_readSign cX3_readSign 1 (some .boolean) 2 [.ref 57] I A L (some (.int t), (I', A', L')) := by
  refine gm_of (n := 0) (lc := [some (.ref 57)]) (by decide +kernel) rfl (fun _ => Nat.le_of_ble_eq_true rfl) ?_
  change Ev 70 RX3 cX3_readSign 1 (some .boolean) 2 0 [some (.ref 57)] [] I A L _
  unfold f_X3_readSign at h
  refine e_aload_n (pc' := 1) (i := 0) rfl rfl dX3_readSign_0 rfl ?_
  obtain ⟨v5, I2, A3, L4, hF1, h⟩ := g_b2_e h
  refine e_callV_i (pc' := 4) dX3_readSign_1 rfl mw_745 mv_X3_readFigure rfl (Nat.le_of_ble_eq_true rfl) (Nat.le_of_ble_eq_true rfl) rfl (Nat.le_of_ble_eq_true rfl) (Nat.le_of_ble_eq_true rfl) rfl (c_X3_readFigure hF1) rfl ?_
  refine e_if_ne (tgt := 9) (pc' := 7) dX3_readSign_4 (by decide) rfl h (fun h => ?_) (fun h => ?_)
  · refine e_aload_n (pc' := 10) (i := 0) rfl rfl dX3_readSign_9 rfl ?_
    refine e_aload_n (pc' := 11) (i := 0) rfl rfl dX3_readSign_10 rfl ?_
    refine e_getI (a := 57) (n := 920) (k0 := 8) (pc' := 14) dX3_readSign_11 rfl rfl (Nat.le_of_ble_eq_true rfl) (Nat.le_of_ble_eq_true rfl) rfl mw_307 rfl ?_
    refine e_putI (a := 57) (n := 916) (k0 := 4) (pc' := 17) dX3_readSign_14 rfl rfl (Nat.le_of_ble_eq_true rfl) (Nat.le_of_ble_eq_true rfl) rfl mw_303 rfl rfl g_pI rfl rfl ?_
    refine e_ltI h (fun I6 h => ?_)
    refine e_aload_n (pc' := 18) (i := 0) rfl rfl dX3_readSign_17 rfl ?_
    obtain ⟨v11, I8, A9, L10, hF7, h⟩ := g_b2_e h
    refine e_callV_i (pc' := 21) dX3_readSign_18 rfl mw_745 mv_X3_readFigure rfl (Nat.le_of_ble_eq_true rfl) (Nat.le_of_ble_eq_true rfl) rfl (Nat.le_of_ble_eq_true rfl) (Nat.le_of_ble_eq_true rfl) rfl (c_X3_readFigure hF7) rfl ?_
    refine e_if_ne (tgt := 26) (pc' := 24) dX3_readSign_21 (by decide) rfl h (fun h => ?_) (fun h => ?_)
    · refine e_aload_n (pc' := 27) (i := 0) rfl rfl dX3_readSign_26 rfl ?_
      refine e_aload_n (pc' := 28) (i := 0) rfl rfl dX3_readSign_27 rfl ?_
      refine e_getI (a := 57) (n := 920) (k0 := 8) (pc' := 31) dX3_readSign_28 rfl rfl (Nat.le_of_ble_eq_true rfl) (Nat.le_of_ble_eq_true rfl) rfl mw_307 rfl ?_
      refine e_putI (a := 57) (n := 917) (k0 := 5) (pc' := 34) dX3_readSign_31 rfl rfl (Nat.le_of_ble_eq_true rfl) (Nat.le_of_ble_eq_true rfl) rfl mw_304 rfl rfl g_pI rfl rfl ?_
      refine e_ltI h (fun I12 h => ?_)
      refine e_aload_n (pc' := 35) (i := 0) rfl rfl dX3_readSign_34 rfl ?_
      obtain ⟨v17, I14, A15, L16, hF13, h⟩ := g_b2_e h
      refine e_callV_i (pc' := 38) dX3_readSign_35 rfl mw_745 mv_X3_readFigure rfl (Nat.le_of_ble_eq_true rfl) (Nat.le_of_ble_eq_true rfl) rfl (Nat.le_of_ble_eq_true rfl) (Nat.le_of_ble_eq_true rfl) rfl (c_X3_readFigure hF13) rfl ?_
      refine e_if_ne (tgt := 43) (pc' := 41) dX3_readSign_38 (by decide) rfl h (fun h => ?_) (fun h => ?_)
      · refine e_aload_n (pc' := 44) (i := 0) rfl rfl dX3_readSign_43 rfl ?_
        refine e_aload_n (pc' := 45) (i := 0) rfl rfl dX3_readSign_44 rfl ?_
        refine e_getI (a := 57) (n := 920) (k0 := 8) (pc' := 48) dX3_readSign_45 rfl rfl (Nat.le_of_ble_eq_true rfl) (Nat.le_of_ble_eq_true rfl) rfl mw_307 rfl ?_
        refine e_putI (a := 57) (n := 918) (k0 := 6) (pc' := 51) dX3_readSign_48 rfl rfl (Nat.le_of_ble_eq_true rfl) (Nat.le_of_ble_eq_true rfl) rfl mw_305 rfl rfl g_pI rfl rfl ?_
        refine e_ltI h (fun I18 h => ?_)
        refine e_aload_n (pc' := 52) (i := 0) rfl rfl dX3_readSign_51 rfl ?_
        obtain ⟨v23, I20, A21, L22, hF19, h⟩ := g_b2_e h
        refine e_callV_i (pc' := 55) dX3_readSign_52 rfl mw_737 mv_X3_look rfl (Nat.le_of_ble_eq_true rfl) (Nat.le_of_ble_eq_true rfl) rfl (Nat.le_of_ble_eq_true rfl) (Nat.le_of_ble_eq_true rfl) rfl (c_X3_look hF19) rfl ?_
        refine e_bipush (v := 47) (pc' := 57) (by decide) dX3_readSign_55 rfl ?_
        refine e_icmp_ne (tgt := 78) (pc' := 60) dX3_readSign_57 (by decide) rfl h (fun h => ?_) (fun h => ?_)
        · refine e_iconst (v := 0) (pc' := 79) (by decide) dX3_readSign_78 rfl ?_
          obtain ⟨rfl, rfl, rfl, rfl⟩ := g_re4 h
          exact e_zret dX3_readSign_79 (by decide)
        · refine e_aload_n (pc' := 61) (i := 0) rfl rfl dX3_readSign_60 rfl ?_
          refine e_getI (a := 57) (n := 916) (k0 := 4) (pc' := 64) dX3_readSign_61 rfl rfl (Nat.le_of_ble_eq_true rfl) (Nat.le_of_ble_eq_true rfl) rfl mw_303 rfl ?_
          refine e_aload_n (pc' := 65) (i := 0) rfl rfl dX3_readSign_64 rfl ?_
          refine e_getI (a := 57) (n := 917) (k0 := 5) (pc' := 68) dX3_readSign_65 rfl rfl (Nat.le_of_ble_eq_true rfl) (Nat.le_of_ble_eq_true rfl) rfl mw_304 rfl ?_
          refine e_aload_n (pc' := 69) (i := 0) rfl rfl dX3_readSign_68 rfl ?_
          refine e_getI (a := 57) (n := 918) (k0 := 6) (pc' := 72) dX3_readSign_69 rfl rfl (Nat.le_of_ble_eq_true rfl) (Nat.le_of_ble_eq_true rfl) rfl mw_305 rfl ?_
          obtain ⟨v25, hF24, h⟩ := g_bd_e h
          refine e_callSN_i (pc' := 75) dX3_readSign_72 rfl mw_749 ms_X6_isSign rfl (Nat.le_of_ble_eq_true rfl) (Nat.le_of_ble_eq_true rfl) (c_X6_isSign _ _ _ hF24) rfl ?_
          refine e_if_ne (tgt := 80) (pc' := 78) dX3_readSign_75 (by decide) rfl h (fun h => ?_) (fun h => ?_)
          · refine e_aload_n (pc' := 81) (i := 0) rfl rfl dX3_readSign_80 rfl ?_
            refine e_dup (pc' := 82) rfl dX3_readSign_81 rfl ?_
            refine e_getI (a := 57) (n := 914) (k0 := 2) (pc' := 85) dX3_readSign_82 rfl rfl (Nat.le_of_ble_eq_true rfl) (Nat.le_of_ble_eq_true rfl) rfl mw_300 rfl ?_
            refine e_iconst (v := 1) (pc' := 86) (by decide) dX3_readSign_85 rfl ?_
            refine e_iadd (pc' := 87) dX3_readSign_86 rfl ?_
            refine e_putI (a := 57) (n := 914) (k0 := 2) (pc' := 90) dX3_readSign_87 rfl rfl (Nat.le_of_ble_eq_true rfl) (Nat.le_of_ble_eq_true rfl) rfl mw_300 rfl rfl g_pI rfl rfl ?_
            refine e_ltI h (fun I26 h => ?_)
            refine e_iconst (v := 1) (pc' := 91) (by decide) dX3_readSign_90 rfl ?_
            obtain ⟨rfl, rfl, rfl, rfl⟩ := g_re4 h
            exact e_zret dX3_readSign_91 (by decide)
          · refine e_iconst (v := 0) (pc' := 79) (by decide) dX3_readSign_78 rfl ?_
            obtain ⟨rfl, rfl, rfl, rfl⟩ := g_re4 h
            exact e_zret dX3_readSign_79 (by decide)
      · refine e_iconst (v := 0) (pc' := 42) (by decide) dX3_readSign_41 rfl ?_
        obtain ⟨rfl, rfl, rfl, rfl⟩ := g_re4 h
        exact e_zret dX3_readSign_42 (by decide)
    · refine e_iconst (v := 0) (pc' := 25) (by decide) dX3_readSign_24 rfl ?_
      obtain ⟨rfl, rfl, rfl, rfl⟩ := g_re4 h
      exact e_zret dX3_readSign_25 (by decide)
  · refine e_iconst (v := 0) (pc' := 8) (by decide) dX3_readSign_7 rfl ?_
    obtain ⟨rfl, rfl, rfl, rfl⟩ := g_re4 h
    exact e_zret dX3_readSign_8 (by decide)
set_option maxHeartbeats 4000000 in
set_option maxRecDepth 100000 in
theorem w_X3_readOff_p105  : ∀ (x1 : Int32) (I : Nat → Int32) (A : Nat → Nat → Int32) (L : Nat → Int64) (t : (Int32 × gS)), f_X3_readOff_p105 x1 I A L = some t → Ev 70 RX3 cX3_readOff 2 (some .boolean) 1 105 [some (.ref 57), some (.int x1)] [] I A L (some (.int t.1), t.2) := by
  intro x1 I A L t h
  unfold f_X3_readOff_p105 at h
  refine e_aload_n (pc' := 106) (i := 0) rfl rfl dX3_readOff_105 rfl ?_
  refine e_getI (a := 57) (n := 914) (k0 := 2) (pc' := 109) dX3_readOff_106 rfl rfl (Nat.le_of_ble_eq_true rfl) (Nat.le_of_ble_eq_true rfl) rfl mw_300 rfl ?_
  refine e_iload_n (pc' := 110) (i := 1) rfl rfl dX3_readOff_109 rfl ?_
  refine e_isub (pc' := 111) dX3_readOff_110 rfl ?_
  refine e_iconst (v := 2) (pc' := 112) (by decide) dX3_readOff_111 rfl ?_
  refine e_icmp_gt (tgt := 125) (pc' := 115) dX3_readOff_112 (by decide) rfl h (fun h => ?_) (fun h => ?_)
  · refine e_aload_n (pc' := 126) (i := 0) rfl rfl dX3_readOff_125 rfl ?_
    refine e_iload_n (pc' := 127) (i := 1) rfl rfl dX3_readOff_126 rfl ?_
    refine e_putI (a := 57) (n := 914) (k0 := 2) (pc' := 130) dX3_readOff_127 rfl rfl (Nat.le_of_ble_eq_true rfl) (Nat.le_of_ble_eq_true rfl) rfl mw_300 rfl rfl g_pI rfl rfl ?_
    refine e_ltI h (fun I1 h => ?_)
    refine e_iconst (v := 0) (pc' := 131) (by decide) dX3_readOff_130 rfl ?_
    obtain rfl := g_re1 h
    exact e_zret dX3_readOff_131 (by decide)
  · refine e_aload_n (pc' := 116) (i := 0) rfl rfl dX3_readOff_115 rfl ?_
    refine e_getI (a := 57) (n := 919) (k0 := 7) (pc' := 119) dX3_readOff_116 rfl rfl (Nat.le_of_ble_eq_true rfl) (Nat.le_of_ble_eq_true rfl) rfl mw_306 rfl ?_
    obtain ⟨v3, hF2, h⟩ := g_bd_e h
    refine e_callSN_i (pc' := 122) dX3_readOff_119 rfl mw_754 ms_X6_isOff rfl (Nat.le_of_ble_eq_true rfl) (Nat.le_of_ble_eq_true rfl) (c_X6_isOff _ hF2) rfl ?_
    refine e_if_ne (tgt := 132) (pc' := 125) dX3_readOff_122 (by decide) rfl h (fun h => ?_) (fun h => ?_)
    · refine e_iconst (v := 1) (pc' := 133) (by decide) dX3_readOff_132 rfl ?_
      obtain rfl := g_re1 h
      exact e_zret dX3_readOff_133 (by decide)
    · refine e_aload_n (pc' := 126) (i := 0) rfl rfl dX3_readOff_125 rfl ?_
      refine e_iload_n (pc' := 127) (i := 1) rfl rfl dX3_readOff_126 rfl ?_
      refine e_putI (a := 57) (n := 914) (k0 := 2) (pc' := 130) dX3_readOff_127 rfl rfl (Nat.le_of_ble_eq_true rfl) (Nat.le_of_ble_eq_true rfl) rfl mw_300 rfl rfl g_pI rfl rfl ?_
      refine e_ltI h (fun I4 h => ?_)
      refine e_iconst (v := 0) (pc' := 131) (by decide) dX3_readOff_130 rfl ?_
      obtain rfl := g_re1 h
      exact e_zret dX3_readOff_131 (by decide)
set_option maxHeartbeats 4000000 in
set_option maxRecDepth 100000 in
theorem w_X3_readOff_p15  : ∀ (n : Nat) (x1 : Int32) (I : Nat → Int32) (A : Nat → Nat → Int32) (L : Nat → Int64) (t : (Int32 × gS)), f_X3_readOff_p15 n x1 I A L = some t → Ev 70 RX3 cX3_readOff 2 (some .boolean) 1 15 [some (.ref 57), some (.int x1)] [] I A L (some (.int t.1), t.2) := by
  intro n
  induction n with
  | zero =>
    intro x1 I A L t h
    cases h
  | succ n ih =>
    intro x1 I A L t h
    rw [f_X3_readOff_p15] at h
    refine e_aload_n (pc' := 16) (i := 0) rfl rfl dX3_readOff_15 rfl ?_
    refine e_getI (a := 57) (n := 914) (k0 := 2) (pc' := 19) dX3_readOff_16 rfl rfl (Nat.le_of_ble_eq_true rfl) (Nat.le_of_ble_eq_true rfl) rfl mw_300 rfl ?_
    refine e_aload_n (pc' := 20) (i := 0) rfl rfl dX3_readOff_19 rfl ?_
    refine e_getI (a := 57) (n := 913) (k0 := 1) (pc' := 23) dX3_readOff_20 rfl rfl (Nat.le_of_ble_eq_true rfl) (Nat.le_of_ble_eq_true rfl) rfl mw_298 rfl ?_
    refine e_icmp_ge (tgt := 105) (pc' := 26) dX3_readOff_23 (by decide) rfl h (fun h => ?_) (fun h => ?_)
    · exact e_weak (lc' := [some (.ref 57), some (.int x1)]) (gle_s (gle_s gle_0)) (w_X3_readOff_p105  _ _ _ _ _ h)
    · refine e_aload_n (pc' := 27) (i := 0) rfl rfl dX3_readOff_26 rfl ?_
      refine e_getR (a := 57) (b := 58) (k0 := 0) (pc' := 30) dX3_readOff_27 rfl rfl (Nat.le_of_ble_eq_true rfl) (Nat.le_of_ble_eq_true rfl) rfl mw_296 rfl ?_
      refine e_aload_n (pc' := 31) (i := 0) rfl rfl dX3_readOff_30 rfl ?_
      refine e_getI (a := 57) (n := 914) (k0 := 2) (pc' := 34) dX3_readOff_31 rfl rfl (Nat.le_of_ble_eq_true rfl) (Nat.le_of_ble_eq_true rfl) rfl mw_300 rfl ?_
      refine e_bald (n := 120) (pc' := 35) dX3_readOff_34 rfl rfl (Nat.le_of_ble_eq_true rfl) h (fun h => ?_)
      refine e_bipush (v := 48) (pc' := 37) (by decide) dX3_readOff_35 rfl ?_
      refine e_icmp_lt (tgt := 105) (pc' := 40) dX3_readOff_37 (by decide) rfl h (fun h => ?_) (fun h => ?_)
      · exact e_weak (lc' := [some (.ref 57), some (.int x1)]) (gle_s (gle_s gle_0)) (w_X3_readOff_p105  _ _ _ _ _ h)
      · refine e_aload_n (pc' := 41) (i := 0) rfl rfl dX3_readOff_40 rfl ?_
        refine e_getR (a := 57) (b := 58) (k0 := 0) (pc' := 44) dX3_readOff_41 rfl rfl (Nat.le_of_ble_eq_true rfl) (Nat.le_of_ble_eq_true rfl) rfl mw_296 rfl ?_
        refine e_aload_n (pc' := 45) (i := 0) rfl rfl dX3_readOff_44 rfl ?_
        refine e_getI (a := 57) (n := 914) (k0 := 2) (pc' := 48) dX3_readOff_45 rfl rfl (Nat.le_of_ble_eq_true rfl) (Nat.le_of_ble_eq_true rfl) rfl mw_300 rfl ?_
        refine e_bald (n := 120) (pc' := 49) dX3_readOff_48 rfl rfl (Nat.le_of_ble_eq_true rfl) h (fun h => ?_)
        refine e_bipush (v := 57) (pc' := 51) (by decide) dX3_readOff_49 rfl ?_
        refine e_icmp_gt (tgt := 105) (pc' := 54) dX3_readOff_51 (by decide) rfl h (fun h => ?_) (fun h => ?_)
        · exact e_weak (lc' := [some (.ref 57), some (.int x1)]) (gle_s (gle_s gle_0)) (w_X3_readOff_p105  _ _ _ _ _ h)
        · refine e_aload_n (pc' := 55) (i := 0) rfl rfl dX3_readOff_54 rfl ?_
          refine e_aload_n (pc' := 56) (i := 0) rfl rfl dX3_readOff_55 rfl ?_
          refine e_getI (a := 57) (n := 914) (k0 := 2) (pc' := 59) dX3_readOff_56 rfl rfl (Nat.le_of_ble_eq_true rfl) (Nat.le_of_ble_eq_true rfl) rfl mw_300 rfl ?_
          refine e_iload_n (pc' := 60) (i := 1) rfl rfl dX3_readOff_59 rfl ?_
          refine e_isub (pc' := 61) dX3_readOff_60 rfl ?_
          refine e_iconst (v := 2) (pc' := 62) (by decide) dX3_readOff_61 rfl ?_
          refine e_icmp_ge (tgt := 88) (pc' := 65) dX3_readOff_62 (by decide) rfl h (fun h => ?_) (fun h => ?_)
          · refine e_iconst (v := 0) (pc' := 89) (by decide) dX3_readOff_88 rfl ?_
            refine e_putI (a := 57) (n := 919) (k0 := 7) (pc' := 92) dX3_readOff_89 rfl rfl (Nat.le_of_ble_eq_true rfl) (Nat.le_of_ble_eq_true rfl) rfl mw_306 rfl rfl g_pI rfl rfl ?_
            refine e_ltI h (fun I1 h => ?_)
            refine e_aload_n (pc' := 93) (i := 0) rfl rfl dX3_readOff_92 rfl ?_
            refine e_dup (pc' := 94) rfl dX3_readOff_93 rfl ?_
            refine e_getI (a := 57) (n := 914) (k0 := 2) (pc' := 97) dX3_readOff_94 rfl rfl (Nat.le_of_ble_eq_true rfl) (Nat.le_of_ble_eq_true rfl) rfl mw_300 rfl ?_
            refine e_iconst (v := 1) (pc' := 98) (by decide) dX3_readOff_97 rfl ?_
            refine e_iadd (pc' := 99) dX3_readOff_98 rfl ?_
            refine e_putI (a := 57) (n := 914) (k0 := 2) (pc' := 102) dX3_readOff_99 rfl rfl (Nat.le_of_ble_eq_true rfl) (Nat.le_of_ble_eq_true rfl) rfl mw_300 rfl rfl g_pI rfl rfl ?_
            refine e_ltI h (fun I2 h => ?_)
            refine e_goto (tgt := 15) dX3_readOff_102 (by decide) ?_
            exact e_weak (lc' := [some (.ref 57), some (.int x1)]) (gle_s (gle_s gle_0)) (ih _ _ _ _ _ h)
          · refine e_bipush (v := 10) (pc' := 67) (by decide) dX3_readOff_65 rfl ?_
            refine e_aload_n (pc' := 68) (i := 0) rfl rfl dX3_readOff_67 rfl ?_
            refine e_getI (a := 57) (n := 919) (k0 := 7) (pc' := 71) dX3_readOff_68 rfl rfl (Nat.le_of_ble_eq_true rfl) (Nat.le_of_ble_eq_true rfl) rfl mw_306 rfl ?_
            refine e_imul (pc' := 72) dX3_readOff_71 rfl ?_
            refine e_aload_n (pc' := 73) (i := 0) rfl rfl dX3_readOff_72 rfl ?_
            refine e_getR (a := 57) (b := 58) (k0 := 0) (pc' := 76) dX3_readOff_73 rfl rfl (Nat.le_of_ble_eq_true rfl) (Nat.le_of_ble_eq_true rfl) rfl mw_296 rfl ?_
            refine e_aload_n (pc' := 77) (i := 0) rfl rfl dX3_readOff_76 rfl ?_
            refine e_getI (a := 57) (n := 914) (k0 := 2) (pc' := 80) dX3_readOff_77 rfl rfl (Nat.le_of_ble_eq_true rfl) (Nat.le_of_ble_eq_true rfl) rfl mw_300 rfl ?_
            refine e_bald (n := 120) (pc' := 81) dX3_readOff_80 rfl rfl (Nat.le_of_ble_eq_true rfl) h (fun h => ?_)
            refine e_iadd (pc' := 82) dX3_readOff_81 rfl ?_
            refine e_bipush (v := 48) (pc' := 84) (by decide) dX3_readOff_82 rfl ?_
            refine e_isub (pc' := 85) dX3_readOff_84 rfl ?_
            refine e_goto (tgt := 89) dX3_readOff_85 (by decide) ?_
            refine e_putI (a := 57) (n := 919) (k0 := 7) (pc' := 92) dX3_readOff_89 rfl rfl (Nat.le_of_ble_eq_true rfl) (Nat.le_of_ble_eq_true rfl) rfl mw_306 rfl rfl g_pI rfl rfl ?_
            refine e_ltI h (fun I3 h => ?_)
            refine e_aload_n (pc' := 93) (i := 0) rfl rfl dX3_readOff_92 rfl ?_
            refine e_dup (pc' := 94) rfl dX3_readOff_93 rfl ?_
            refine e_getI (a := 57) (n := 914) (k0 := 2) (pc' := 97) dX3_readOff_94 rfl rfl (Nat.le_of_ble_eq_true rfl) (Nat.le_of_ble_eq_true rfl) rfl mw_300 rfl ?_
            refine e_iconst (v := 1) (pc' := 98) (by decide) dX3_readOff_97 rfl ?_
            refine e_iadd (pc' := 99) dX3_readOff_98 rfl ?_
            refine e_putI (a := 57) (n := 914) (k0 := 2) (pc' := 102) dX3_readOff_99 rfl rfl (Nat.le_of_ble_eq_true rfl) (Nat.le_of_ble_eq_true rfl) rfl mw_300 rfl rfl g_pI rfl rfl ?_
            refine e_ltI h (fun I4 h => ?_)
            refine e_goto (tgt := 15) dX3_readOff_102 (by decide) ?_
            exact e_weak (lc' := [some (.ref 57), some (.int x1)]) (gle_s (gle_s gle_0)) (ih _ _ _ _ _ h)
set_option maxHeartbeats 4000000 in
set_option maxRecDepth 100000 in
theorem c_X3_readOff  {I : Nat → Int32} {A : Nat → Nat → Int32} {L : Nat → Int64} {t : Int32} {I' : Nat → Int32} {A' : Nat → Nat → Int32} {L' : Nat → Int64} (h : f_X3_readOff   I A L = some (t, I', A', L')) : GM 70 yX3_readOff cX3_readOff 2 (some .boolean) 1 [.ref 57] I A L (some (.int t), (I', A', L')) := by
  refine gm_of (n := 1) (lc := [some (.ref 57), none]) (by decide +kernel) rfl (fun _ => Nat.le_of_ble_eq_true rfl) ?_
  change Ev 70 RX3 cX3_readOff 2 (some .boolean) 1 0 [some (.ref 57), none] [] I A L _
  unfold f_X3_readOff at h
  refine e_aload_n (pc' := 1) (i := 0) rfl rfl dX3_readOff_0 rfl ?_
  obtain ⟨v5, I2, A3, L4, hF1, h⟩ := g_b2_e h
  refine e_callV_i (pc' := 4) dX3_readOff_1 rfl mw_737 mv_X3_look rfl (Nat.le_of_ble_eq_true rfl) (Nat.le_of_ble_eq_true rfl) rfl (Nat.le_of_ble_eq_true rfl) (Nat.le_of_ble_eq_true rfl) rfl (c_X3_look hF1) rfl ?_
  refine e_pop (pc' := 5) rfl dX3_readOff_4 rfl ?_
  refine e_aload_n (pc' := 6) (i := 0) rfl rfl dX3_readOff_5 rfl ?_
  refine e_getI (a := 57) (n := 914) (k0 := 2) (pc' := 9) dX3_readOff_6 rfl rfl (Nat.le_of_ble_eq_true rfl) (Nat.le_of_ble_eq_true rfl) rfl mw_300 rfl ?_
  refine e_istore_n (pc' := 10) (i := 1) (lc' := [some (.ref 57), some (.int (I2 914))]) rfl dX3_readOff_9 rfl (Nat.le_of_ble_eq_true rfl) rfl rfl ?_
  refine e_aload_n (pc' := 11) (i := 0) rfl rfl dX3_readOff_10 rfl ?_
  refine e_iconst (v := 0) (pc' := 12) (by decide) dX3_readOff_11 rfl ?_
  refine e_putI (a := 57) (n := 919) (k0 := 7) (pc' := 15) dX3_readOff_12 rfl rfl (Nat.le_of_ble_eq_true rfl) (Nat.le_of_ble_eq_true rfl) rfl mw_306 rfl rfl g_pI rfl rfl ?_
  refine e_ltI h (fun I6 h => ?_)
  exact e_weak (lc' := [some (.ref 57), some (.int (I2 914))]) (gle_s (gle_s gle_0)) (w_X3_readOff_p15  _ _ _ _ _ _ h)
set_option maxHeartbeats 4000000 in
set_option maxRecDepth 100000 in
theorem c_X2_put_6 (a0 : Int32) (a1 : Int32) (a2 : Int32) (a3 : Int32) {I : Nat → Int32} {A : Nat → Nat → Int32} {L : Nat → Int64} {I' : Nat → Int32} {A' : Nat → Nat → Int32} {L' : Nat → Int64} (h : f_X2_put 6 a0 a1 a2 a3 I A L = some (I', A', L')) : GM 70 yX2_put cX2_put 5 none 0 [.ref 6, .int a0, .int a1, .int a2, .int a3] I A L (none, (I', A', L')) := by
  refine gm_of (n := 0) (lc := [some (.ref 6), some (.int a0), some (.int a1), some (.int a2), some (.int a3)]) (by decide +kernel) rfl (fun _ => Nat.le_of_ble_eq_true rfl) ?_
  change Ev 70 RX2 cX2_put 5 none 0 0 [some (.ref 6), some (.int a0), some (.int a1), some (.int a2), some (.int a3)] [] I A L _
  unfold f_X2_put at h
  refine e_aload_n (pc' := 1) (i := 0) rfl rfl dX2_put_0 rfl ?_
  refine e_getI (a := 6) (n := 100) (k0 := 4) (pc' := 4) dX2_put_1 rfl rfl (Nat.le_of_ble_eq_true rfl) (Nat.le_of_ble_eq_true rfl) rfl mw_142 rfl ?_
  refine e_bipush (v := 32) (pc' := 6) (by decide) dX2_put_4 rfl ?_
  refine e_icmp_ge (tgt := 60) (pc' := 9) dX2_put_6 (by decide) rfl h (fun h => ?_) (fun h => ?_)
  · obtain ⟨rfl, rfl, rfl⟩ := g_re3 h
    exact e_vret dX2_put_60
  · refine e_aload_n (pc' := 10) (i := 0) rfl rfl dX2_put_9 rfl ?_
    refine e_getR (a := 6) (b := 7) (k0 := 0) (pc' := 13) dX2_put_10 rfl rfl (Nat.le_of_ble_eq_true rfl) (Nat.le_of_ble_eq_true rfl) rfl mw_126 rfl ?_
    refine e_aload_n (pc' := 14) (i := 0) rfl rfl dX2_put_13 rfl ?_
    refine e_getI (a := 6) (n := 100) (k0 := 4) (pc' := 17) dX2_put_14 rfl rfl (Nat.le_of_ble_eq_true rfl) (Nat.le_of_ble_eq_true rfl) rfl mw_142 rfl ?_
    refine e_iload_n (pc' := 18) (i := 1) rfl rfl dX2_put_17 rfl ?_
    refine e_iast (n := 32) (pc' := 19) dX2_put_18 rfl rfl (Nat.le_of_ble_eq_true rfl) h (fun h => ?_)
    refine e_ltA h (fun A1 h => ?_)
    refine e_aload_n (pc' := 20) (i := 0) rfl rfl dX2_put_19 rfl ?_
    refine e_getR (a := 6) (b := 8) (k0 := 1) (pc' := 23) dX2_put_20 rfl rfl (Nat.le_of_ble_eq_true rfl) (Nat.le_of_ble_eq_true rfl) rfl mw_130 rfl ?_
    refine e_aload_n (pc' := 24) (i := 0) rfl rfl dX2_put_23 rfl ?_
    refine e_getI (a := 6) (n := 100) (k0 := 4) (pc' := 27) dX2_put_24 rfl rfl (Nat.le_of_ble_eq_true rfl) (Nat.le_of_ble_eq_true rfl) rfl mw_142 rfl ?_
    refine e_iload_n (pc' := 28) (i := 2) rfl rfl dX2_put_27 rfl ?_
    refine e_iast (n := 32) (pc' := 29) dX2_put_28 rfl rfl (Nat.le_of_ble_eq_true rfl) h (fun h => ?_)
    refine e_ltA h (fun A2 h => ?_)
    refine e_aload_n (pc' := 30) (i := 0) rfl rfl dX2_put_29 rfl ?_
    refine e_getR (a := 6) (b := 9) (k0 := 2) (pc' := 33) dX2_put_30 rfl rfl (Nat.le_of_ble_eq_true rfl) (Nat.le_of_ble_eq_true rfl) rfl mw_134 rfl ?_
    refine e_aload_n (pc' := 34) (i := 0) rfl rfl dX2_put_33 rfl ?_
    refine e_getI (a := 6) (n := 100) (k0 := 4) (pc' := 37) dX2_put_34 rfl rfl (Nat.le_of_ble_eq_true rfl) (Nat.le_of_ble_eq_true rfl) rfl mw_142 rfl ?_
    refine e_iload_n (pc' := 38) (i := 3) rfl rfl dX2_put_37 rfl ?_
    refine e_iast (n := 32) (pc' := 39) dX2_put_38 rfl rfl (Nat.le_of_ble_eq_true rfl) h (fun h => ?_)
    refine e_ltA h (fun A3 h => ?_)
    refine e_aload_n (pc' := 40) (i := 0) rfl rfl dX2_put_39 rfl ?_
    refine e_getR (a := 6) (b := 10) (k0 := 3) (pc' := 43) dX2_put_40 rfl rfl (Nat.le_of_ble_eq_true rfl) (Nat.le_of_ble_eq_true rfl) rfl mw_138 rfl ?_
    refine e_aload_n (pc' := 44) (i := 0) rfl rfl dX2_put_43 rfl ?_
    refine e_getI (a := 6) (n := 100) (k0 := 4) (pc' := 47) dX2_put_44 rfl rfl (Nat.le_of_ble_eq_true rfl) (Nat.le_of_ble_eq_true rfl) rfl mw_142 rfl ?_
    refine e_iload (pc' := 49) (i := 4) rfl dX2_put_47 rfl ?_
    refine e_iast (n := 32) (pc' := 50) dX2_put_49 rfl rfl (Nat.le_of_ble_eq_true rfl) h (fun h => ?_)
    refine e_ltA h (fun A4 h => ?_)
    refine e_aload_n (pc' := 51) (i := 0) rfl rfl dX2_put_50 rfl ?_
    refine e_dup (pc' := 52) rfl dX2_put_51 rfl ?_
    refine e_getI (a := 6) (n := 100) (k0 := 4) (pc' := 55) dX2_put_52 rfl rfl (Nat.le_of_ble_eq_true rfl) (Nat.le_of_ble_eq_true rfl) rfl mw_142 rfl ?_
    refine e_iconst (v := 1) (pc' := 56) (by decide) dX2_put_55 rfl ?_
    refine e_iadd (pc' := 57) dX2_put_56 rfl ?_
    refine e_putI (a := 6) (n := 100) (k0 := 4) (pc' := 60) dX2_put_57 rfl rfl (Nat.le_of_ble_eq_true rfl) (Nat.le_of_ble_eq_true rfl) rfl mw_142 rfl rfl g_pI rfl rfl ?_
    refine e_ltI h (fun I5 h => ?_)
    obtain ⟨rfl, rfl, rfl⟩ := g_re3 h
    exact e_vret dX2_put_60
set_option maxHeartbeats 4000000 in
set_option maxRecDepth 100000 in
theorem w_X2_putFamily_6_54_p2  : ∀ (n : Nat) (x2 : Int32) (x3 : Int32) (I : Nat → Int32) (A : Nat → Nat → Int32) (L : Nat → Int64) (t : gS), f_X2_putFamily_p2 6 54 n x2 x3 I A L = some t → Ev 70 RX2 cX2_putFamily 5 none 1 2 [some (.ref 6), some (.ref 54), some (.int x2), some (.int x3), none] [] I A L (none, t) := by
  intro n
  induction n with
  | zero =>
    intro x2 x3 I A L t h
    cases h
  | succ n ih =>
    intro x2 x3 I A L t h
    rw [f_X2_putFamily_p2] at h
    refine e_iload_n (pc' := 3) (i := 3) rfl rfl dX2_putFamily_2 rfl ?_
    refine e_aload_n (pc' := 4) (i := 1) rfl rfl dX2_putFamily_3 rfl ?_
    refine e_getIN (a := 54) (n := 866) (k0 := 2) (pc' := 7) dX2_putFamily_4 rfl rfl (Nat.le_of_ble_eq_true rfl) (Nat.le_of_ble_eq_true rfl) rfl mw_280 rfl ?_
    refine e_icmp_ge (tgt := 53) (pc' := 10) dX2_putFamily_7 (by decide) rfl h (fun h => ?_) (fun h => ?_)
    · obtain rfl := g_re1 h
      exact e_vret dX2_putFamily_53
    · refine e_aload_n (pc' := 11) (i := 1) rfl rfl dX2_putFamily_10 rfl ?_
      refine e_getRN (a := 54) (b := 56) (k0 := 1) (pc' := 14) dX2_putFamily_11 rfl rfl (Nat.le_of_ble_eq_true rfl) (Nat.le_of_ble_eq_true rfl) rfl mw_276 rfl ?_
      refine e_iload_n (pc' := 15) (i := 3) rfl rfl dX2_putFamily_14 rfl ?_
      refine e_iald (n := 48) (pc' := 16) dX2_putFamily_15 rfl rfl (Nat.le_of_ble_eq_true rfl) h (fun h => ?_)
      refine e_lt h (fun v1 h => ?_)
      refine e_istore (pc' := 18) (i := 4) (lc' := [some (.ref 6), some (.ref 54), some (.int x2), some (.int x3), some (.int v1)]) dX2_putFamily_16 rfl (Nat.le_of_ble_eq_true rfl) rfl rfl ?_
      refine e_aload_n (pc' := 19) (i := 0) rfl rfl dX2_putFamily_18 rfl ?_
      refine e_iload (pc' := 21) (i := 4) rfl dX2_putFamily_19 rfl ?_
      refine e_bipush (v := 100) (pc' := 23) (by decide) dX2_putFamily_21 rfl ?_
      refine e_idiv (pc' := 24) (by decide) dX2_putFamily_23 rfl ?_
      refine e_iconst (v := 3) (pc' := 25) (by decide) dX2_putFamily_24 rfl ?_
      refine e_isub (pc' := 26) dX2_putFamily_25 rfl ?_
      refine e_iload (pc' := 28) (i := 4) rfl dX2_putFamily_26 rfl ?_
      refine e_bipush (v := 10) (pc' := 30) (by decide) dX2_putFamily_28 rfl ?_
      refine e_idiv (pc' := 31) (by decide) dX2_putFamily_30 rfl ?_
      refine e_bipush (v := 10) (pc' := 33) (by decide) dX2_putFamily_31 rfl ?_
      refine e_irem (pc' := 34) (by decide) dX2_putFamily_33 rfl ?_
      refine e_iconst (v := 3) (pc' := 35) (by decide) dX2_putFamily_34 rfl ?_
      refine e_isub (pc' := 36) dX2_putFamily_35 rfl ?_
      refine e_iload (pc' := 38) (i := 4) rfl dX2_putFamily_36 rfl ?_
      refine e_bipush (v := 10) (pc' := 40) (by decide) dX2_putFamily_38 rfl ?_
      refine e_irem (pc' := 41) (by decide) dX2_putFamily_40 rfl ?_
      refine e_iconst (v := 3) (pc' := 42) (by decide) dX2_putFamily_41 rfl ?_
      refine e_isub (pc' := 43) dX2_putFamily_42 rfl ?_
      refine e_iload_n (pc' := 44) (i := 2) rfl rfl dX2_putFamily_43 rfl ?_
      obtain ⟨I3, A4, L5, hF2, h⟩ := g_b1_e h
      refine e_callV_v (pc' := 47) dX2_putFamily_44 rfl mw_331 mv_X2_put rfl (Nat.le_of_ble_eq_true rfl) (Nat.le_of_ble_eq_true rfl) rfl (Nat.le_of_ble_eq_true rfl) (Nat.le_of_ble_eq_true rfl) rfl (c_X2_put_6 _ _ _ _ hF2) rfl ?_
      refine e_iinc (pc' := 50) (v := (x3 + 1)) (lc' := [some (.ref 6), some (.ref 54), some (.int x2), some (.int (x3 + 1)), some (.int v1)]) dX2_putFamily_47 rfl rfl rfl (Nat.le_of_ble_eq_true rfl) rfl rfl ?_
      refine e_goto (tgt := 2) dX2_putFamily_50 (by decide) ?_
      exact e_weak (lc' := [some (.ref 6), some (.ref 54), some (.int x2), some (.int (x3 + 1)), none]) (gle_s (gle_s (gle_s (gle_s (gle_n gle_0))))) (ih _ _ _ _ _ _ h)
set_option maxHeartbeats 4000000 in
set_option maxRecDepth 100000 in
theorem c_X2_putFamily_6_54 (a0 : Int32) {I : Nat → Int32} {A : Nat → Nat → Int32} {L : Nat → Int64} {I' : Nat → Int32} {A' : Nat → Nat → Int32} {L' : Nat → Int64} (h : f_X2_putFamily 6 54 a0 I A L = some (I', A', L')) : GM 70 yX2_putFamily cX2_putFamily 5 none 1 [.ref 6, .ref 54, .int a0] I A L (none, (I', A', L')) := by
  refine gm_of (n := 2) (lc := [some (.ref 6), some (.ref 54), some (.int a0), none, none]) (by decide +kernel) rfl (fun _ => Nat.le_of_ble_eq_true rfl) ?_
  change Ev 70 RX2 cX2_putFamily 5 none 1 0 [some (.ref 6), some (.ref 54), some (.int a0), none, none] [] I A L _
  unfold f_X2_putFamily at h
  refine e_iconst (v := 0) (pc' := 1) (by decide) dX2_putFamily_0 rfl ?_
  refine e_istore_n (pc' := 2) (i := 3) (lc' := [some (.ref 6), some (.ref 54), some (.int a0), some (.int 0), none]) rfl dX2_putFamily_1 rfl (Nat.le_of_ble_eq_true rfl) rfl rfl ?_
  exact e_weak (lc' := [some (.ref 6), some (.ref 54), some (.int a0), some (.int 0), none]) (gle_s (gle_s (gle_s (gle_s (gle_n gle_0))))) (w_X2_putFamily_6_54_p2  _ _ _ _ _ _ _ h)
set_option maxHeartbeats 4000000 in
set_option maxRecDepth 100000 in
theorem c_X3_endOne_6_54  {I : Nat → Int32} {A : Nat → Nat → Int32} {L : Nat → Int64} {t : Int32} {I' : Nat → Int32} {A' : Nat → Nat → Int32} {L' : Nat → Int64} (h : f_X3_endOne 6 54  I A L = some (t, I', A', L')) : GM 70 yX3_endOne cX3_endOne 3 (some .boolean) 3 [.ref 57, .ref 6, .ref 54] I A L (some (.int t), (I', A', L')) := by
  refine gm_of (n := 0) (lc := [some (.ref 57), some (.ref 6), some (.ref 54)]) (by decide +kernel) rfl (fun _ => Nat.le_of_ble_eq_true rfl) ?_
  change Ev 70 RX3 cX3_endOne 3 (some .boolean) 3 0 [some (.ref 57), some (.ref 6), some (.ref 54)] [] I A L _
  unfold f_X3_endOne at h
  refine e_aload_n (pc' := 1) (i := 0) rfl rfl dX3_endOne_0 rfl ?_
  obtain ⟨v5, I2, A3, L4, hF1, h⟩ := g_b2_e h
  refine e_callV_i (pc' := 4) dX3_endOne_1 rfl mw_737 mv_X3_look rfl (Nat.le_of_ble_eq_true rfl) (Nat.le_of_ble_eq_true rfl) rfl (Nat.le_of_ble_eq_true rfl) (Nat.le_of_ble_eq_true rfl) rfl (c_X3_look hF1) rfl ?_
  refine e_bipush (v := 59) (pc' := 6) (by decide) dX3_endOne_4 rfl ?_
  refine e_icmp_eq (tgt := 11) (pc' := 9) dX3_endOne_6 (by decide) rfl h (fun h => ?_) (fun h => ?_)
  · refine e_aload_n (pc' := 12) (i := 2) rfl rfl dX3_endOne_11 rfl ?_
    refine e_aload_n (pc' := 13) (i := 0) rfl rfl dX3_endOne_12 rfl ?_
    refine e_getI (a := 57) (n := 915) (k0 := 3) (pc' := 16) dX3_endOne_13 rfl rfl (Nat.le_of_ble_eq_true rfl) (Nat.le_of_ble_eq_true rfl) rfl mw_302 rfl ?_
    refine e_aload_n (pc' := 17) (i := 0) rfl rfl dX3_endOne_16 rfl ?_
    refine e_getI (a := 57) (n := 916) (k0 := 4) (pc' := 20) dX3_endOne_17 rfl rfl (Nat.le_of_ble_eq_true rfl) (Nat.le_of_ble_eq_true rfl) rfl mw_303 rfl ?_
    refine e_aload_n (pc' := 21) (i := 0) rfl rfl dX3_endOne_20 rfl ?_
    refine e_getI (a := 57) (n := 917) (k0 := 5) (pc' := 24) dX3_endOne_21 rfl rfl (Nat.le_of_ble_eq_true rfl) (Nat.le_of_ble_eq_true rfl) rfl mw_304 rfl ?_
    refine e_aload_n (pc' := 25) (i := 0) rfl rfl dX3_endOne_24 rfl ?_
    refine e_getI (a := 57) (n := 918) (k0 := 6) (pc' := 28) dX3_endOne_25 rfl rfl (Nat.le_of_ble_eq_true rfl) (Nat.le_of_ble_eq_true rfl) rfl mw_305 rfl ?_
    obtain ⟨I7, A8, L9, hF6, h⟩ := g_b1_e h
    refine e_callVN_v (pc' := 31) dX3_endOne_28 rfl mw_759 mv_X0_gather rfl (Nat.le_of_ble_eq_true rfl) (Nat.le_of_ble_eq_true rfl) rfl (Nat.le_of_ble_eq_true rfl) (Nat.le_of_ble_eq_true rfl) rfl (c_X0_gather _ _ _ _ hF6) rfl ?_
    refine e_aload_n (pc' := 32) (i := 1) rfl rfl dX3_endOne_31 rfl ?_
    refine e_getIN (a := 6) (n := 100) (k0 := 4) (pc' := 35) dX3_endOne_32 rfl rfl (Nat.le_of_ble_eq_true rfl) (Nat.le_of_ble_eq_true rfl) rfl mw_146 rfl ?_
    refine e_aload_n (pc' := 36) (i := 2) rfl rfl dX3_endOne_35 rfl ?_
    refine e_getIN (a := 54) (n := 866) (k0 := 2) (pc' := 39) dX3_endOne_36 rfl rfl (Nat.le_of_ble_eq_true rfl) (Nat.le_of_ble_eq_true rfl) rfl mw_281 rfl ?_
    refine e_iadd (pc' := 40) dX3_endOne_39 rfl ?_
    refine e_bipush (v := 32) (pc' := 42) (by decide) dX3_endOne_40 rfl ?_
    refine e_icmp_le (tgt := 47) (pc' := 45) dX3_endOne_42 (by decide) rfl h (fun h => ?_) (fun h => ?_)
    · refine e_aload_n (pc' := 48) (i := 1) rfl rfl dX3_endOne_47 rfl ?_
      refine e_aload_n (pc' := 49) (i := 2) rfl rfl dX3_endOne_48 rfl ?_
      refine e_aload_n (pc' := 50) (i := 0) rfl rfl dX3_endOne_49 rfl ?_
      refine e_getI (a := 57) (n := 919) (k0 := 7) (pc' := 53) dX3_endOne_50 rfl rfl (Nat.le_of_ble_eq_true rfl) (Nat.le_of_ble_eq_true rfl) rfl mw_306 rfl ?_
      obtain ⟨I11, A12, L13, hF10, h⟩ := g_b1_e h
      refine e_callVN_v (pc' := 56) dX3_endOne_53 rfl mw_760 mv_X2_putFamily rfl (Nat.le_of_ble_eq_true rfl) (Nat.le_of_ble_eq_true rfl) rfl (Nat.le_of_ble_eq_true rfl) (Nat.le_of_ble_eq_true rfl) rfl (c_X2_putFamily_6_54 _ hF10) rfl ?_
      refine e_aload_n (pc' := 57) (i := 0) rfl rfl dX3_endOne_56 rfl ?_
      refine e_dup (pc' := 58) rfl dX3_endOne_57 rfl ?_
      refine e_getI (a := 57) (n := 914) (k0 := 2) (pc' := 61) dX3_endOne_58 rfl rfl (Nat.le_of_ble_eq_true rfl) (Nat.le_of_ble_eq_true rfl) rfl mw_300 rfl ?_
      refine e_iconst (v := 1) (pc' := 62) (by decide) dX3_endOne_61 rfl ?_
      refine e_iadd (pc' := 63) dX3_endOne_62 rfl ?_
      refine e_putI (a := 57) (n := 914) (k0 := 2) (pc' := 66) dX3_endOne_63 rfl rfl (Nat.le_of_ble_eq_true rfl) (Nat.le_of_ble_eq_true rfl) rfl mw_300 rfl rfl g_pI rfl rfl ?_
      refine e_ltI h (fun I14 h => ?_)
      refine e_iconst (v := 1) (pc' := 67) (by decide) dX3_endOne_66 rfl ?_
      obtain ⟨rfl, rfl, rfl, rfl⟩ := g_re4 h
      exact e_zret dX3_endOne_67 (by decide)
    · refine e_iconst (v := 0) (pc' := 46) (by decide) dX3_endOne_45 rfl ?_
      obtain ⟨rfl, rfl, rfl, rfl⟩ := g_re4 h
      exact e_zret dX3_endOne_46 (by decide)
  · refine e_iconst (v := 0) (pc' := 10) (by decide) dX3_endOne_9 rfl ?_
    obtain ⟨rfl, rfl, rfl, rfl⟩ := g_re4 h
    exact e_zret dX3_endOne_10 (by decide)
set_option maxHeartbeats 4000000 in
set_option maxRecDepth 100000 in
theorem w_X3_isColonAhead_p5 (I : Nat → Int32) (A : Nat → Nat → Int32) (L : Nat → Int64) : ∀ (n : Nat) (x1 : Int32) (t : Int32), f_X3_isColonAhead_p5 I A L n x1 = some t → Ev 70 RX3 cX3_isColonAhead 2 (some .boolean) 0 5 [some (.ref 57), some (.int x1)] [] I A L (some (.int t), (I, A, L)) := by
  intro n
  induction n with
  | zero =>
    intro x1 t h
    cases h
  | succ n ih =>
    intro x1 t h
    rw [f_X3_isColonAhead_p5] at h
    refine e_iload_n (pc' := 6) (i := 1) rfl rfl dX3_isColonAhead_5 rfl ?_
    refine e_aload_n (pc' := 7) (i := 0) rfl rfl dX3_isColonAhead_6 rfl ?_
    refine e_getI (a := 57) (n := 913) (k0 := 1) (pc' := 10) dX3_isColonAhead_7 rfl rfl (Nat.le_of_ble_eq_true rfl) (Nat.le_of_ble_eq_true rfl) rfl mw_298 rfl ?_
    refine e_icmp_ge (tgt := 43) (pc' := 13) dX3_isColonAhead_10 (by decide) rfl h (fun h => ?_) (fun h => ?_)
    · refine e_iconst (v := 0) (pc' := 44) (by decide) dX3_isColonAhead_43 rfl ?_
      obtain rfl := g_re1 h
      exact e_zret dX3_isColonAhead_44 (by decide)
    · refine e_aload_n (pc' := 14) (i := 0) rfl rfl dX3_isColonAhead_13 rfl ?_
      refine e_getR (a := 57) (b := 58) (k0 := 0) (pc' := 17) dX3_isColonAhead_14 rfl rfl (Nat.le_of_ble_eq_true rfl) (Nat.le_of_ble_eq_true rfl) rfl mw_296 rfl ?_
      refine e_iload_n (pc' := 18) (i := 1) rfl rfl dX3_isColonAhead_17 rfl ?_
      refine e_bald (n := 120) (pc' := 19) dX3_isColonAhead_18 rfl rfl (Nat.le_of_ble_eq_true rfl) h (fun h => ?_)
      refine e_bipush (v := 59) (pc' := 21) (by decide) dX3_isColonAhead_19 rfl ?_
      refine e_icmp_eq (tgt := 43) (pc' := 24) dX3_isColonAhead_21 (by decide) rfl h (fun h => ?_) (fun h => ?_)
      · refine e_iconst (v := 0) (pc' := 44) (by decide) dX3_isColonAhead_43 rfl ?_
        obtain rfl := g_re1 h
        exact e_zret dX3_isColonAhead_44 (by decide)
      · refine e_aload_n (pc' := 25) (i := 0) rfl rfl dX3_isColonAhead_24 rfl ?_
        refine e_getR (a := 57) (b := 58) (k0 := 0) (pc' := 28) dX3_isColonAhead_25 rfl rfl (Nat.le_of_ble_eq_true rfl) (Nat.le_of_ble_eq_true rfl) rfl mw_296 rfl ?_
        refine e_iload_n (pc' := 29) (i := 1) rfl rfl dX3_isColonAhead_28 rfl ?_
        refine e_bald (n := 120) (pc' := 30) dX3_isColonAhead_29 rfl rfl (Nat.le_of_ble_eq_true rfl) h (fun h => ?_)
        refine e_bipush (v := 58) (pc' := 32) (by decide) dX3_isColonAhead_30 rfl ?_
        refine e_icmp_ne (tgt := 37) (pc' := 35) dX3_isColonAhead_32 (by decide) rfl h (fun h => ?_) (fun h => ?_)
        · refine e_iinc (pc' := 40) (v := (x1 + 1)) (lc' := [some (.ref 57), some (.int (x1 + 1))]) dX3_isColonAhead_37 rfl rfl rfl (Nat.le_of_ble_eq_true rfl) rfl rfl ?_
          refine e_goto (tgt := 5) dX3_isColonAhead_40 (by decide) ?_
          exact e_weak (lc' := [some (.ref 57), some (.int (x1 + 1))]) (gle_s (gle_s gle_0)) (ih _ _ h)
        · refine e_iconst (v := 1) (pc' := 36) (by decide) dX3_isColonAhead_35 rfl ?_
          obtain rfl := g_re1 h
          exact e_zret dX3_isColonAhead_36 (by decide)
set_option maxHeartbeats 4000000 in
set_option maxRecDepth 100000 in
theorem c_X3_isColonAhead  {I : Nat → Int32} {A : Nat → Nat → Int32} {L : Nat → Int64} {t : Int32} (h : f_X3_isColonAhead I A L  = some t) : GM 70 yX3_isColonAhead cX3_isColonAhead 2 (some .boolean) 0 [.ref 57] I A L (some (.int t), (I, A, L)) := by
  refine gm_of (n := 1) (lc := [some (.ref 57), none]) (by decide +kernel) rfl (fun _ => Nat.le_of_ble_eq_true rfl) ?_
  change Ev 70 RX3 cX3_isColonAhead 2 (some .boolean) 0 0 [some (.ref 57), none] [] I A L _
  unfold f_X3_isColonAhead at h
  refine e_aload_n (pc' := 1) (i := 0) rfl rfl dX3_isColonAhead_0 rfl ?_
  refine e_getI (a := 57) (n := 914) (k0 := 2) (pc' := 4) dX3_isColonAhead_1 rfl rfl (Nat.le_of_ble_eq_true rfl) (Nat.le_of_ble_eq_true rfl) rfl mw_300 rfl ?_
  refine e_istore_n (pc' := 5) (i := 1) (lc' := [some (.ref 57), some (.int (I 914))]) rfl dX3_isColonAhead_4 rfl (Nat.le_of_ble_eq_true rfl) rfl rfl ?_
  exact e_weak (lc' := [some (.ref 57), some (.int (I 914))]) (gle_s (gle_s gle_0)) (w_X3_isColonAhead_p5 I A L  _ _ _ h)
set_option maxHeartbeats 4000000 in
set_option maxRecDepth 100000 in
theorem w_X3_readTurns_p38  (k2 : Int32 → (Nat → Int32) → (Nat → Nat → Int32) → (Nat → Int64) → Option (Int32 × gS)) (hk2 : ∀ (x1 : Int32) (I : Nat → Int32) (A : Nat → Nat → Int32) (L : Nat → Int64) (t : (Int32 × gS)), k2 x1 I A L = some t → Ev 70 RX3 cX3_readTurns 3 (some .boolean) 1 2 [some (.ref 57), some (.int x1), none] [] I A L (some (.int t.1), t.2)) : ∀ (x1 : Int32) (x2 : Int32) (I : Nat → Int32) (A : Nat → Nat → Int32) (L : Nat → Int64) (t : (Int32 × gS)), f_X3_readTurns_p38 k2 x1 x2 I A L = some t → Ev 70 RX3 cX3_readTurns 3 (some .boolean) 1 38 [some (.ref 57), some (.int x1), some (.int x2)] [] I A L (some (.int t.1), t.2) := by
  intro x1 x2 I A L t h
  unfold f_X3_readTurns_p38 at h
  refine e_iload_n (pc' := 39) (i := 2) rfl rfl dX3_readTurns_38 rfl ?_
  refine e_bipush (v := 48) (pc' := 41) (by decide) dX3_readTurns_39 rfl ?_
  refine e_icmp_lt (tgt := 50) (pc' := 44) dX3_readTurns_41 (by decide) rfl h (fun h => ?_) (fun h => ?_)
  · refine e_iconst (v := 0) (pc' := 51) (by decide) dX3_readTurns_50 rfl ?_
    obtain rfl := g_re1 h
    exact e_zret dX3_readTurns_51 (by decide)
  · refine e_iload_n (pc' := 45) (i := 2) rfl rfl dX3_readTurns_44 rfl ?_
    refine e_bipush (v := 53) (pc' := 47) (by decide) dX3_readTurns_45 rfl ?_
    refine e_icmp_le (tgt := 52) (pc' := 50) dX3_readTurns_47 (by decide) rfl h (fun h => ?_) (fun h => ?_)
    · refine e_aload_n (pc' := 53) (i := 0) rfl rfl dX3_readTurns_52 rfl ?_
      refine e_dup (pc' := 54) rfl dX3_readTurns_53 rfl ?_
      refine e_getI (a := 57) (n := 915) (k0 := 3) (pc' := 57) dX3_readTurns_54 rfl rfl (Nat.le_of_ble_eq_true rfl) (Nat.le_of_ble_eq_true rfl) rfl mw_302 rfl ?_
      refine e_iconst (v := 1) (pc' := 58) (by decide) dX3_readTurns_57 rfl ?_
      refine e_iload_n (pc' := 59) (i := 2) rfl rfl dX3_readTurns_58 rfl ?_
      refine e_bipush (v := 48) (pc' := 61) (by decide) dX3_readTurns_59 rfl ?_
      refine e_isub (pc' := 62) dX3_readTurns_61 rfl ?_
      refine e_ishl (pc' := 63) dX3_readTurns_62 rfl ?_
      refine e_ior (pc' := 64) dX3_readTurns_63 rfl ?_
      refine e_putI (a := 57) (n := 915) (k0 := 3) (pc' := 67) dX3_readTurns_64 rfl rfl (Nat.le_of_ble_eq_true rfl) (Nat.le_of_ble_eq_true rfl) rfl mw_302 rfl rfl g_pI rfl rfl ?_
      refine e_ltI h (fun I1 h => ?_)
      refine e_aload_n (pc' := 68) (i := 0) rfl rfl dX3_readTurns_67 rfl ?_
      refine e_dup (pc' := 69) rfl dX3_readTurns_68 rfl ?_
      refine e_getI (a := 57) (n := 914) (k0 := 2) (pc' := 72) dX3_readTurns_69 rfl rfl (Nat.le_of_ble_eq_true rfl) (Nat.le_of_ble_eq_true rfl) rfl mw_300 rfl ?_
      refine e_iconst (v := 1) (pc' := 73) (by decide) dX3_readTurns_72 rfl ?_
      refine e_iadd (pc' := 74) dX3_readTurns_73 rfl ?_
      refine e_putI (a := 57) (n := 914) (k0 := 2) (pc' := 77) dX3_readTurns_74 rfl rfl (Nat.le_of_ble_eq_true rfl) (Nat.le_of_ble_eq_true rfl) rfl mw_300 rfl rfl g_pI rfl rfl ?_
      refine e_ltI h (fun I2 h => ?_)
      refine e_iinc (pc' := 80) (v := (x1 + 1)) (lc' := [some (.ref 57), some (.int (x1 + 1)), some (.int x2)]) dX3_readTurns_77 rfl rfl rfl (Nat.le_of_ble_eq_true rfl) rfl rfl ?_
      refine e_goto (tgt := 2) dX3_readTurns_80 (by decide) ?_
      exact e_weak (lc' := [some (.ref 57), some (.int (x1 + 1)), none]) (gle_s (gle_s (gle_n gle_0))) (hk2 _ _ _ _ _ h)
    · refine e_iconst (v := 0) (pc' := 51) (by decide) dX3_readTurns_50 rfl ?_
      obtain rfl := g_re1 h
      exact e_zret dX3_readTurns_51 (by decide)
set_option maxHeartbeats 4000000 in
set_option maxRecDepth 100000 in
theorem w_X3_readTurns_p2  : ∀ (n : Nat) (x1 : Int32) (I : Nat → Int32) (A : Nat → Nat → Int32) (L : Nat → Int64) (t : (Int32 × gS)), f_X3_readTurns_p2 n x1 I A L = some t → Ev 70 RX3 cX3_readTurns 3 (some .boolean) 1 2 [some (.ref 57), some (.int x1), none] [] I A L (some (.int t.1), t.2) := by
  intro n
  induction n with
  | zero =>
    intro x1 I A L t h
    cases h
  | succ n ih =>
    intro x1 I A L t h
    rw [f_X3_readTurns_p2] at h
    refine e_iload_n (pc' := 3) (i := 1) rfl rfl dX3_readTurns_2 rfl ?_
    refine e_bipush (v := 120) (pc' := 5) (by decide) dX3_readTurns_3 rfl ?_
    refine e_icmp_ge (tgt := 83) (pc' := 8) dX3_readTurns_5 (by decide) rfl h (fun h => ?_) (fun h => ?_)
    · refine e_iconst (v := 0) (pc' := 84) (by decide) dX3_readTurns_83 rfl ?_
      obtain rfl := g_re1 h
      exact e_zret dX3_readTurns_84 (by decide)
    · refine e_aload_n (pc' := 9) (i := 0) rfl rfl dX3_readTurns_8 rfl ?_
      obtain ⟨v5, I2, A3, L4, hF1, h⟩ := g_b2_e h
      refine e_callV_i (pc' := 12) dX3_readTurns_9 rfl mw_737 mv_X3_look rfl (Nat.le_of_ble_eq_true rfl) (Nat.le_of_ble_eq_true rfl) rfl (Nat.le_of_ble_eq_true rfl) (Nat.le_of_ble_eq_true rfl) rfl (c_X3_look hF1) rfl ?_
      refine e_istore_n (pc' := 13) (i := 2) (lc' := [some (.ref 57), some (.int x1), some (.int v5)]) rfl dX3_readTurns_12 rfl (Nat.le_of_ble_eq_true rfl) rfl rfl ?_
      refine e_iload_n (pc' := 14) (i := 2) rfl rfl dX3_readTurns_13 rfl ?_
      refine e_bipush (v := 58) (pc' := 16) (by decide) dX3_readTurns_14 rfl ?_
      refine e_icmp_ne (tgt := 38) (pc' := 19) dX3_readTurns_16 (by decide) rfl h (fun h => ?_) (fun h => ?_)
      · exact e_weak (lc' := [some (.ref 57), some (.int x1), some (.int v5)]) (gle_s (gle_s (gle_s gle_0))) (w_X3_readTurns_p38 _ ih _ _ _ _ _ _ h)
      · refine e_aload_n (pc' := 20) (i := 0) rfl rfl dX3_readTurns_19 rfl ?_
        refine e_getI (a := 57) (n := 915) (k0 := 3) (pc' := 23) dX3_readTurns_20 rfl rfl (Nat.le_of_ble_eq_true rfl) (Nat.le_of_ble_eq_true rfl) rfl mw_302 rfl ?_
        refine e_if_eq (tgt := 38) (pc' := 26) dX3_readTurns_23 (by decide) rfl h (fun h => ?_) (fun h => ?_)
        · exact e_weak (lc' := [some (.ref 57), some (.int x1), some (.int v5)]) (gle_s (gle_s (gle_s gle_0))) (w_X3_readTurns_p38 _ ih _ _ _ _ _ _ h)
        · refine e_aload_n (pc' := 27) (i := 0) rfl rfl dX3_readTurns_26 rfl ?_
          refine e_dup (pc' := 28) rfl dX3_readTurns_27 rfl ?_
          refine e_getI (a := 57) (n := 914) (k0 := 2) (pc' := 31) dX3_readTurns_28 rfl rfl (Nat.le_of_ble_eq_true rfl) (Nat.le_of_ble_eq_true rfl) rfl mw_300 rfl ?_
          refine e_iconst (v := 1) (pc' := 32) (by decide) dX3_readTurns_31 rfl ?_
          refine e_iadd (pc' := 33) dX3_readTurns_32 rfl ?_
          refine e_putI (a := 57) (n := 914) (k0 := 2) (pc' := 36) dX3_readTurns_33 rfl rfl (Nat.le_of_ble_eq_true rfl) (Nat.le_of_ble_eq_true rfl) rfl mw_300 rfl rfl g_pI rfl rfl ?_
          refine e_ltI h (fun I6 h => ?_)
          refine e_iconst (v := 1) (pc' := 37) (by decide) dX3_readTurns_36 rfl ?_
          obtain rfl := g_re1 h
          exact e_zret dX3_readTurns_37 (by decide)
set_option maxHeartbeats 4000000 in
set_option maxRecDepth 100000 in
theorem c_X3_readTurns  {I : Nat → Int32} {A : Nat → Nat → Int32} {L : Nat → Int64} {t : Int32} {I' : Nat → Int32} {A' : Nat → Nat → Int32} {L' : Nat → Int64} (h : f_X3_readTurns   I A L = some (t, I', A', L')) : GM 70 yX3_readTurns cX3_readTurns 3 (some .boolean) 1 [.ref 57] I A L (some (.int t), (I', A', L')) := by
  refine gm_of (n := 2) (lc := [some (.ref 57), none, none]) (by decide +kernel) rfl (fun _ => Nat.le_of_ble_eq_true rfl) ?_
  change Ev 70 RX3 cX3_readTurns 3 (some .boolean) 1 0 [some (.ref 57), none, none] [] I A L _
  unfold f_X3_readTurns at h
  refine e_iconst (v := 0) (pc' := 1) (by decide) dX3_readTurns_0 rfl ?_
  refine e_istore_n (pc' := 2) (i := 1) (lc' := [some (.ref 57), some (.int 0), none]) rfl dX3_readTurns_1 rfl (Nat.le_of_ble_eq_true rfl) rfl rfl ?_
  exact e_weak (lc' := [some (.ref 57), some (.int 0), none]) (gle_s (gle_s (gle_n gle_0))) (w_X3_readTurns_p2  _ _ _ _ _ _ h)
set_option maxHeartbeats 4000000 in
set_option maxRecDepth 100000 in
theorem w_X3_readOne_6_54_p21  : ∀ (I : Nat → Int32) (A : Nat → Nat → Int32) (L : Nat → Int64) (t : (Int32 × gS)), f_X3_readOne_p21 6 54 I A L = some t → Ev 70 RX3 cX3_readOne 3 (some .boolean) 4 21 [some (.ref 57), some (.ref 6), some (.ref 54)] [] I A L (some (.int t.1), t.2) := by
  intro  I A L t h
  unfold f_X3_readOne_p21 at h
  refine e_aload_n (pc' := 22) (i := 0) rfl rfl dX3_readOne_21 rfl ?_
  obtain ⟨v5, I2, A3, L4, hF1, h⟩ := g_b2_e h
  refine e_callV_i (pc' := 25) dX3_readOne_22 rfl mw_741 mv_X3_readSign rfl (Nat.le_of_ble_eq_true rfl) (Nat.le_of_ble_eq_true rfl) rfl (Nat.le_of_ble_eq_true rfl) (Nat.le_of_ble_eq_true rfl) rfl (c_X3_readSign hF1) rfl ?_
  refine e_if_eq (tgt := 48) (pc' := 28) dX3_readOne_25 (by decide) rfl h (fun h => ?_) (fun h => ?_)
  · refine e_iconst (v := 0) (pc' := 49) (by decide) dX3_readOne_48 rfl ?_
    obtain rfl := g_re1 h
    exact e_zret dX3_readOne_49 (by decide)
  · refine e_aload_n (pc' := 29) (i := 0) rfl rfl dX3_readOne_28 rfl ?_
    obtain ⟨v10, I7, A8, L9, hF6, h⟩ := g_b2_e h
    refine e_callV_i (pc' := 32) dX3_readOne_29 rfl mw_750 mv_X3_readOff rfl (Nat.le_of_ble_eq_true rfl) (Nat.le_of_ble_eq_true rfl) rfl (Nat.le_of_ble_eq_true rfl) (Nat.le_of_ble_eq_true rfl) rfl (c_X3_readOff hF6) rfl ?_
    refine e_if_eq (tgt := 48) (pc' := 35) dX3_readOne_32 (by decide) rfl h (fun h => ?_) (fun h => ?_)
    · refine e_iconst (v := 0) (pc' := 49) (by decide) dX3_readOne_48 rfl ?_
      obtain rfl := g_re1 h
      exact e_zret dX3_readOne_49 (by decide)
    · refine e_aload_n (pc' := 36) (i := 0) rfl rfl dX3_readOne_35 rfl ?_
      refine e_aload_n (pc' := 37) (i := 1) rfl rfl dX3_readOne_36 rfl ?_
      refine e_aload_n (pc' := 38) (i := 2) rfl rfl dX3_readOne_37 rfl ?_
      obtain ⟨v15, I12, A13, L14, hF11, h⟩ := g_b2_e h
      refine e_callV_i (pc' := 41) dX3_readOne_38 rfl mw_755 mv_X3_endOne rfl (Nat.le_of_ble_eq_true rfl) (Nat.le_of_ble_eq_true rfl) rfl (Nat.le_of_ble_eq_true rfl) (Nat.le_of_ble_eq_true rfl) rfl (c_X3_endOne_6_54 hF11) rfl ?_
      refine e_if_eq (tgt := 48) (pc' := 44) dX3_readOne_41 (by decide) rfl h (fun h => ?_) (fun h => ?_)
      · refine e_iconst (v := 0) (pc' := 49) (by decide) dX3_readOne_48 rfl ?_
        obtain rfl := g_re1 h
        exact e_zret dX3_readOne_49 (by decide)
      · refine e_iconst (v := 1) (pc' := 45) (by decide) dX3_readOne_44 rfl ?_
        refine e_goto (tgt := 49) dX3_readOne_45 (by decide) ?_
        obtain rfl := g_re1 h
        exact e_zret dX3_readOne_49 (by decide)
set_option maxHeartbeats 4000000 in
set_option maxRecDepth 100000 in
theorem c_X3_readOne_6_54  {I : Nat → Int32} {A : Nat → Nat → Int32} {L : Nat → Int64} {t : Int32} {I' : Nat → Int32} {A' : Nat → Nat → Int32} {L' : Nat → Int64} (h : f_X3_readOne 6 54  I A L = some (t, I', A', L')) : GM 70 yX3_readOne cX3_readOne 3 (some .boolean) 4 [.ref 57, .ref 6, .ref 54] I A L (some (.int t), (I', A', L')) := by
  refine gm_of (n := 0) (lc := [some (.ref 57), some (.ref 6), some (.ref 54)]) (by decide +kernel) rfl (fun _ => Nat.le_of_ble_eq_true rfl) ?_
  change Ev 70 RX3 cX3_readOne 3 (some .boolean) 4 0 [some (.ref 57), some (.ref 6), some (.ref 54)] [] I A L _
  unfold f_X3_readOne at h
  refine e_aload_n (pc' := 1) (i := 0) rfl rfl dX3_readOne_0 rfl ?_
  refine e_iconst (v := 0) (pc' := 2) (by decide) dX3_readOne_1 rfl ?_
  refine e_putI (a := 57) (n := 915) (k0 := 3) (pc' := 5) dX3_readOne_2 rfl rfl (Nat.le_of_ble_eq_true rfl) (Nat.le_of_ble_eq_true rfl) rfl mw_302 rfl rfl g_pI rfl rfl ?_
  refine e_ltI h (fun I1 h => ?_)
  refine e_aload_n (pc' := 6) (i := 0) rfl rfl dX3_readOne_5 rfl ?_
  obtain ⟨v3, hF2, h⟩ := g_bd_e h
  refine e_callV_i (pc' := 9) dX3_readOne_6 rfl mw_729 mv_X3_isColonAhead rfl (Nat.le_of_ble_eq_true rfl) (Nat.le_of_ble_eq_true rfl) rfl (Nat.le_of_ble_eq_true rfl) (Nat.le_of_ble_eq_true rfl) rfl (c_X3_isColonAhead hF2) rfl ?_
  refine e_if_eq (tgt := 21) (pc' := 12) dX3_readOne_9 (by decide) rfl h (fun h => ?_) (fun h => ?_)
  · exact e_weak (lc' := [some (.ref 57), some (.ref 6), some (.ref 54)]) (gle_s (gle_s (gle_s gle_0))) (w_X3_readOne_6_54_p21  _ _ _ _ h)
  · refine e_aload_n (pc' := 13) (i := 0) rfl rfl dX3_readOne_12 rfl ?_
    obtain ⟨v8, I5, A6, L7, hF4, h⟩ := g_b2_e h
    refine e_callV_i (pc' := 16) dX3_readOne_13 rfl mw_733 mv_X3_readTurns rfl (Nat.le_of_ble_eq_true rfl) (Nat.le_of_ble_eq_true rfl) rfl (Nat.le_of_ble_eq_true rfl) (Nat.le_of_ble_eq_true rfl) rfl (c_X3_readTurns hF4) rfl ?_
    refine e_if_ne (tgt := 21) (pc' := 19) dX3_readOne_16 (by decide) rfl h (fun h => ?_) (fun h => ?_)
    · exact e_weak (lc' := [some (.ref 57), some (.ref 6), some (.ref 54)]) (gle_s (gle_s (gle_s gle_0))) (w_X3_readOne_6_54_p21  _ _ _ _ h)
    · refine e_iconst (v := 0) (pc' := 20) (by decide) dX3_readOne_19 rfl ?_
      obtain ⟨rfl, rfl, rfl, rfl⟩ := g_re4 h
      exact e_zret dX3_readOne_20 (by decide)
