set_option maxHeartbeats 4000000 in
set_option maxRecDepth 100000 in
theorem w_X7_lays_p121  (k89 : Int32 → (Nat → Int32) → (Nat → Nat → Int32) → (Nat → Int64) → Option gS) (hk89 : ∀ (x1 : Int32) (I : Nat → Int32) (A : Nat → Nat → Int32) (L : Nat → Int64) (t : gS), k89 x1 I A L = some t → Ev 70 RX7 cX7_lays 5 none 3 89 [some (.ref 59), some (.int x1), none, none, none] [] I A L (none, t)) : ∀ (n : Nat) (x1 : Int32) (x2 : Int32) (I : Nat → Int32) (A : Nat → Nat → Int32) (L : Nat → Int64) (t : gS), f_X7_lays_p121 k89 n x1 x2 I A L = some t → Ev 70 RX7 cX7_lays 5 none 3 121 [some (.ref 59), some (.int x1), some (.int x2), none, none] [] I A L (none, t) := by
  intro n
  induction n with
  | zero =>
    intro x1 x2 I A L t h
    cases h
  | succ n ih =>
    intro x1 x2 I A L t h
    rw [f_X7_lays_p121] at h
    refine e_iload_n (pc' := 122) (i := 2) rfl rfl dX7_lays_121 rfl ?_
    refine e_iload_n (pc' := 123) (i := 1) rfl rfl dX7_lays_122 rfl ?_
    refine e_icmp_ge (tgt := 161) (pc' := 126) dX7_lays_123 (by decide) rfl h (fun h => ?_) (fun h => ?_)
    · refine e_iinc (pc' := 164) (v := (x1 + 1)) (lc' := [some (.ref 59), some (.int (x1 + 1)), some (.int x2), none, none]) dX7_lays_161 rfl rfl rfl (Nat.le_of_ble_eq_true rfl) rfl rfl ?_
      refine e_goto (tgt := 89) dX7_lays_164 (by decide) ?_
      exact e_weak (lc' := [some (.ref 59), some (.int (x1 + 1)), none, none, none]) (gle_s (gle_s (gle_n (gle_n (gle_n gle_0))))) (hk89 _ _ _ _ _ h)
    · refine e_aload_n (pc' := 127) (i := 0) rfl rfl dX7_lays_126 rfl ?_
      refine e_getR (a := 59) (b := 66) (k0 := 12) (pc' := 130) dX7_lays_127 rfl rfl (Nat.le_of_ble_eq_true rfl) (Nat.le_of_ble_eq_true rfl) rfl mw_806 rfl ?_
      refine e_iload_n (pc' := 131) (i := 1) rfl rfl dX7_lays_130 rfl ?_
      refine e_aload_n (pc' := 132) (i := 0) rfl rfl dX7_lays_131 rfl ?_
      refine e_getR (a := 59) (b := 66) (k0 := 12) (pc' := 135) dX7_lays_132 rfl rfl (Nat.le_of_ble_eq_true rfl) (Nat.le_of_ble_eq_true rfl) rfl mw_806 rfl ?_
      refine e_iload_n (pc' := 136) (i := 1) rfl rfl dX7_lays_135 rfl ?_
      refine e_zald (n := 32) (pc' := 137) dX7_lays_136 rfl rfl (Nat.le_of_ble_eq_true rfl) h (fun h => ?_)
      refine e_if_eq (tgt := 153) (pc' := 140) dX7_lays_137 (by decide) rfl h (fun h => ?_) (fun h => ?_)
      · refine e_iconst (v := 0) (pc' := 154) (by decide) dX7_lays_153 rfl ?_
        refine e_zast (n := 32) (pc' := 155) dX7_lays_154 rfl rfl (Nat.le_of_ble_eq_true rfl) h (fun h => ?_)
        refine e_ltA h (fun A1 h => ?_)
        refine e_iinc (pc' := 158) (v := (x2 + 1)) (lc' := [some (.ref 59), some (.int x1), some (.int (x2 + 1)), none, none]) dX7_lays_155 rfl rfl rfl (Nat.le_of_ble_eq_true rfl) rfl rfl ?_
        refine e_goto (tgt := 121) dX7_lays_158 (by decide) ?_
        exact e_weak (lc' := [some (.ref 59), some (.int x1), some (.int (x2 + 1)), none, none]) (gle_s (gle_s (gle_s (gle_n (gle_n gle_0))))) (ih _ _ _ _ _ _ h)
      · refine e_aload_n (pc' := 141) (i := 0) rfl rfl dX7_lays_140 rfl ?_
        refine e_iload_n (pc' := 142) (i := 1) rfl rfl dX7_lays_141 rfl ?_
        refine e_iload_n (pc' := 143) (i := 2) rfl rfl dX7_lays_142 rfl ?_
        obtain ⟨v3, hF2, h⟩ := g_bd_e h
        refine e_callV_i (pc' := 146) dX7_lays_143 rfl mw_959 mv_X7_isSame rfl (Nat.le_of_ble_eq_true rfl) (Nat.le_of_ble_eq_true rfl) rfl (Nat.le_of_ble_eq_true rfl) (Nat.le_of_ble_eq_true rfl) rfl (c_X7_isSame _ _ hF2) rfl ?_
        refine e_if_ne (tgt := 153) (pc' := 149) dX7_lays_146 (by decide) rfl h (fun h => ?_) (fun h => ?_)
        · refine e_iconst (v := 0) (pc' := 154) (by decide) dX7_lays_153 rfl ?_
          refine e_zast (n := 32) (pc' := 155) dX7_lays_154 rfl rfl (Nat.le_of_ble_eq_true rfl) h (fun h => ?_)
          refine e_ltA h (fun A4 h => ?_)
          refine e_iinc (pc' := 158) (v := (x2 + 1)) (lc' := [some (.ref 59), some (.int x1), some (.int (x2 + 1)), none, none]) dX7_lays_155 rfl rfl rfl (Nat.le_of_ble_eq_true rfl) rfl rfl ?_
          refine e_goto (tgt := 121) dX7_lays_158 (by decide) ?_
          exact e_weak (lc' := [some (.ref 59), some (.int x1), some (.int (x2 + 1)), none, none]) (gle_s (gle_s (gle_s (gle_n (gle_n gle_0))))) (ih _ _ _ _ _ _ h)
        · refine e_iconst (v := 1) (pc' := 150) (by decide) dX7_lays_149 rfl ?_
          refine e_goto (tgt := 154) dX7_lays_150 (by decide) ?_
          refine e_zast (n := 32) (pc' := 155) dX7_lays_154 rfl rfl (Nat.le_of_ble_eq_true rfl) h (fun h => ?_)
          refine e_ltA h (fun A5 h => ?_)
          refine e_iinc (pc' := 158) (v := (x2 + 1)) (lc' := [some (.ref 59), some (.int x1), some (.int (x2 + 1)), none, none]) dX7_lays_155 rfl rfl rfl (Nat.le_of_ble_eq_true rfl) rfl rfl ?_
          refine e_goto (tgt := 121) dX7_lays_158 (by decide) ?_
          exact e_weak (lc' := [some (.ref 59), some (.int x1), some (.int (x2 + 1)), none, none]) (gle_s (gle_s (gle_s (gle_n (gle_n gle_0))))) (ih _ _ _ _ _ _ h)
set_option maxHeartbeats 4000000 in
set_option maxRecDepth 100000 in
theorem w_X7_lays_p89  : ∀ (n : Nat) (x1 : Int32) (I : Nat → Int32) (A : Nat → Nat → Int32) (L : Nat → Int64) (t : gS), f_X7_lays_p89 n x1 I A L = some t → Ev 70 RX7 cX7_lays 5 none 3 89 [some (.ref 59), some (.int x1), none, none, none] [] I A L (none, t) := by
  intro n
  induction n with
  | zero =>
    intro x1 I A L t h
    cases h
  | succ n ih =>
    intro x1 I A L t h
    rw [f_X7_lays_p89] at h
    refine e_iload_n (pc' := 90) (i := 1) rfl rfl dX7_lays_89 rfl ?_
    refine e_aload_n (pc' := 91) (i := 0) rfl rfl dX7_lays_90 rfl ?_
    refine e_getR (a := 59) (b := 60) (k0 := 0) (pc' := 94) dX7_lays_91 rfl rfl (Nat.le_of_ble_eq_true rfl) (Nat.le_of_ble_eq_true rfl) rfl mw_794 rfl ?_
    refine e_iconst (v := 0) (pc' := 95) (by decide) dX7_lays_94 rfl ?_
    refine e_iald (n := 129) (pc' := 96) dX7_lays_95 rfl rfl (Nat.le_of_ble_eq_true rfl) h (fun h => ?_)
    refine e_icmp_ge (tgt := 167) (pc' := 99) dX7_lays_96 (by decide) rfl h (fun h => ?_) (fun h => ?_)
    · obtain rfl := g_re1 h
      exact e_vret dX7_lays_167
    · refine e_aload_n (pc' := 100) (i := 0) rfl rfl dX7_lays_99 rfl ?_
      refine e_getR (a := 59) (b := 66) (k0 := 12) (pc' := 103) dX7_lays_100 rfl rfl (Nat.le_of_ble_eq_true rfl) (Nat.le_of_ble_eq_true rfl) rfl mw_806 rfl ?_
      refine e_iload_n (pc' := 104) (i := 1) rfl rfl dX7_lays_103 rfl ?_
      refine e_aload_n (pc' := 105) (i := 0) rfl rfl dX7_lays_104 rfl ?_
      refine e_iload_n (pc' := 106) (i := 1) rfl rfl dX7_lays_105 rfl ?_
      obtain ⟨v2, hF1, h⟩ := g_bd_e h
      refine e_callV_i (pc' := 109) dX7_lays_106 rfl mw_951 mv_X7_cornersOn rfl (Nat.le_of_ble_eq_true rfl) (Nat.le_of_ble_eq_true rfl) rfl (Nat.le_of_ble_eq_true rfl) (Nat.le_of_ble_eq_true rfl) rfl (c_X7_cornersOn _ hF1) rfl ?_
      refine e_iconst (v := 2) (pc' := 110) (by decide) dX7_lays_109 rfl ?_
      refine e_icmp_le (tgt := 117) (pc' := 113) dX7_lays_110 (by decide) rfl h (fun h => ?_) (fun h => ?_)
      · refine e_iconst (v := 0) (pc' := 118) (by decide) dX7_lays_117 rfl ?_
        refine e_zast (n := 32) (pc' := 119) dX7_lays_118 rfl rfl (Nat.le_of_ble_eq_true rfl) h (fun h => ?_)
        refine e_ltA h (fun A3 h => ?_)
        refine e_iconst (v := 0) (pc' := 120) (by decide) dX7_lays_119 rfl ?_
        refine e_istore_n (pc' := 121) (i := 2) (lc' := [some (.ref 59), some (.int x1), some (.int 0), none, none]) rfl dX7_lays_120 rfl (Nat.le_of_ble_eq_true rfl) rfl rfl ?_
        exact e_weak (lc' := [some (.ref 59), some (.int x1), some (.int 0), none, none]) (gle_s (gle_s (gle_s (gle_n (gle_n gle_0))))) (w_X7_lays_p121 _ ih _ _ _ _ _ _ _ h)
      · refine e_iconst (v := 1) (pc' := 114) (by decide) dX7_lays_113 rfl ?_
        refine e_goto (tgt := 118) dX7_lays_114 (by decide) ?_
        refine e_zast (n := 32) (pc' := 119) dX7_lays_118 rfl rfl (Nat.le_of_ble_eq_true rfl) h (fun h => ?_)
        refine e_ltA h (fun A4 h => ?_)
        refine e_iconst (v := 0) (pc' := 120) (by decide) dX7_lays_119 rfl ?_
        refine e_istore_n (pc' := 121) (i := 2) (lc' := [some (.ref 59), some (.int x1), some (.int 0), none, none]) rfl dX7_lays_120 rfl (Nat.le_of_ble_eq_true rfl) rfl rfl ?_
        exact e_weak (lc' := [some (.ref 59), some (.int x1), some (.int 0), none, none]) (gle_s (gle_s (gle_s (gle_n (gle_n gle_0))))) (w_X7_lays_p121 _ ih _ _ _ _ _ _ _ h)
set_option maxHeartbeats 4000000 in
set_option maxRecDepth 100000 in
theorem w_X7_lays_p35  (k7 : Int32 → (Nat → Int32) → (Nat → Nat → Int32) → (Nat → Int64) → Option gS) (hk7 : ∀ (x1 : Int32) (I : Nat → Int32) (A : Nat → Nat → Int32) (L : Nat → Int64) (t : gS), k7 x1 I A L = some t → Ev 70 RX7 cX7_lays 5 none 3 7 [some (.ref 59), some (.int x1), none, none, none] [] I A L (none, t)) (k21 : Int32 → Int32 → (Nat → Int32) → (Nat → Nat → Int32) → (Nat → Int64) → Option gS) (hk21 : ∀ (x1 : Int32) (x2 : Int32) (I : Nat → Int32) (A : Nat → Nat → Int32) (L : Nat → Int64) (t : gS), k21 x1 x2 I A L = some t → Ev 70 RX7 cX7_lays 5 none 3 21 [some (.ref 59), some (.int x1), some (.int x2), none, none] [] I A L (none, t)) : ∀ (n : Nat) (x1 : Int32) (x2 : Int32) (x3 : Int32) (I : Nat → Int32) (A : Nat → Nat → Int32) (L : Nat → Int64) (t : gS), f_X7_lays_p35 k7 k21 n x1 x2 x3 I A L = some t → Ev 70 RX7 cX7_lays 5 none 3 35 [some (.ref 59), some (.int x1), some (.int x2), some (.int x3), none] [] I A L (none, t) := by
  intro n
  induction n with
  | zero =>
    intro x1 x2 x3 I A L t h
    cases h
  | succ n ih =>
    intro x1 x2 x3 I A L t h
    rw [f_X7_lays_p35] at h
    refine e_iload_n (pc' := 36) (i := 3) rfl rfl dX7_lays_35 rfl ?_
    refine e_aload_n (pc' := 37) (i := 0) rfl rfl dX7_lays_36 rfl ?_
    refine e_getR (a := 59) (b := 60) (k0 := 0) (pc' := 40) dX7_lays_37 rfl rfl (Nat.le_of_ble_eq_true rfl) (Nat.le_of_ble_eq_true rfl) rfl mw_794 rfl ?_
    refine e_iconst (v := 0) (pc' := 41) (by decide) dX7_lays_40 rfl ?_
    refine e_iald (n := 129) (pc' := 42) dX7_lays_41 rfl rfl (Nat.le_of_ble_eq_true rfl) h (fun h => ?_)
    refine e_icmp_ge (tgt := 75) (pc' := 45) dX7_lays_42 (by decide) rfl h (fun h => ?_) (fun h => ?_)
    · refine e_iinc (pc' := 78) (v := (x2 + 1)) (lc' := [some (.ref 59), some (.int x1), some (.int (x2 + 1)), some (.int x3), none]) dX7_lays_75 rfl rfl rfl (Nat.le_of_ble_eq_true rfl) rfl rfl ?_
      refine e_goto (tgt := 21) dX7_lays_78 (by decide) ?_
      exact e_weak (lc' := [some (.ref 59), some (.int x1), some (.int (x2 + 1)), none, none]) (gle_s (gle_s (gle_s (gle_n (gle_n gle_0))))) (hk21 _ _ _ _ _ _ h)
    · refine e_aload_n (pc' := 46) (i := 0) rfl rfl dX7_lays_45 rfl ?_
      refine e_iload_n (pc' := 47) (i := 1) rfl rfl dX7_lays_46 rfl ?_
      refine e_iload_n (pc' := 48) (i := 2) rfl rfl dX7_lays_47 rfl ?_
      refine e_iload_n (pc' := 49) (i := 3) rfl rfl dX7_lays_48 rfl ?_
      refine e_iconst (v := 3) (pc' := 50) (by decide) dX7_lays_49 rfl ?_
      obtain ⟨v2, hF1, h⟩ := g_bd_e h
      refine e_callV_i (pc' := 53) dX7_lays_50 rfl mw_928 mv_X7_determinant rfl (Nat.le_of_ble_eq_true rfl) (Nat.le_of_ble_eq_true rfl) rfl (Nat.le_of_ble_eq_true rfl) (Nat.le_of_ble_eq_true rfl) rfl (c_X7_determinant _ _ _ _ hF1) rfl ?_
      refine e_istore (pc' := 55) (i := 4) (lc' := [some (.ref 59), some (.int x1), some (.int x2), some (.int x3), some (.int v2)]) dX7_lays_53 rfl (Nat.le_of_ble_eq_true rfl) rfl rfl ?_
      refine e_iload (pc' := 57) (i := 4) rfl dX7_lays_55 rfl ?_
      refine e_if_eq (tgt := 69) (pc' := 60) dX7_lays_57 (by decide) rfl h (fun h => ?_) (fun h => ?_)
      · refine e_iinc (pc' := 72) (v := (x3 + 1)) (lc' := [some (.ref 59), some (.int x1), some (.int x2), some (.int (x3 + 1)), some (.int v2)]) dX7_lays_69 rfl rfl rfl (Nat.le_of_ble_eq_true rfl) rfl rfl ?_
        refine e_goto (tgt := 35) dX7_lays_72 (by decide) ?_
        exact e_weak (lc' := [some (.ref 59), some (.int x1), some (.int x2), some (.int (x3 + 1)), none]) (gle_s (gle_s (gle_s (gle_s (gle_n gle_0))))) (ih _ _ _ _ _ _ _ h)
      · refine e_aload_n (pc' := 61) (i := 0) rfl rfl dX7_lays_60 rfl ?_
        refine e_iload_n (pc' := 62) (i := 1) rfl rfl dX7_lays_61 rfl ?_
        refine e_iload_n (pc' := 63) (i := 2) rfl rfl dX7_lays_62 rfl ?_
        refine e_iload_n (pc' := 64) (i := 3) rfl rfl dX7_lays_63 rfl ?_
        refine e_iload (pc' := 66) (i := 4) rfl dX7_lays_64 rfl ?_
        obtain ⟨I4, A5, L6, hF3, h⟩ := g_b1_e h
        refine e_callV_v (pc' := 69) dX7_lays_66 rfl mw_932 mv_X7_meeting rfl (Nat.le_of_ble_eq_true rfl) (Nat.le_of_ble_eq_true rfl) rfl (Nat.le_of_ble_eq_true rfl) (Nat.le_of_ble_eq_true rfl) rfl (c_X7_meeting _ _ _ _ hF3) rfl ?_
        refine e_iinc (pc' := 72) (v := (x3 + 1)) (lc' := [some (.ref 59), some (.int x1), some (.int x2), some (.int (x3 + 1)), some (.int v2)]) dX7_lays_69 rfl rfl rfl (Nat.le_of_ble_eq_true rfl) rfl rfl ?_
        refine e_goto (tgt := 35) dX7_lays_72 (by decide) ?_
        exact e_weak (lc' := [some (.ref 59), some (.int x1), some (.int x2), some (.int (x3 + 1)), none]) (gle_s (gle_s (gle_s (gle_s (gle_n gle_0))))) (ih _ _ _ _ _ _ _ h)
set_option maxHeartbeats 4000000 in
set_option maxRecDepth 100000 in
theorem w_X7_lays_p21  (k7 : Int32 → (Nat → Int32) → (Nat → Nat → Int32) → (Nat → Int64) → Option gS) (hk7 : ∀ (x1 : Int32) (I : Nat → Int32) (A : Nat → Nat → Int32) (L : Nat → Int64) (t : gS), k7 x1 I A L = some t → Ev 70 RX7 cX7_lays 5 none 3 7 [some (.ref 59), some (.int x1), none, none, none] [] I A L (none, t)) : ∀ (n : Nat) (x1 : Int32) (x2 : Int32) (I : Nat → Int32) (A : Nat → Nat → Int32) (L : Nat → Int64) (t : gS), f_X7_lays_p21 k7 n x1 x2 I A L = some t → Ev 70 RX7 cX7_lays 5 none 3 21 [some (.ref 59), some (.int x1), some (.int x2), none, none] [] I A L (none, t) := by
  intro n
  induction n with
  | zero =>
    intro x1 x2 I A L t h
    cases h
  | succ n ih =>
    intro x1 x2 I A L t h
    rw [f_X7_lays_p21] at h
    refine e_iload_n (pc' := 22) (i := 2) rfl rfl dX7_lays_21 rfl ?_
    refine e_aload_n (pc' := 23) (i := 0) rfl rfl dX7_lays_22 rfl ?_
    refine e_getR (a := 59) (b := 60) (k0 := 0) (pc' := 26) dX7_lays_23 rfl rfl (Nat.le_of_ble_eq_true rfl) (Nat.le_of_ble_eq_true rfl) rfl mw_794 rfl ?_
    refine e_iconst (v := 0) (pc' := 27) (by decide) dX7_lays_26 rfl ?_
    refine e_iald (n := 129) (pc' := 28) dX7_lays_27 rfl rfl (Nat.le_of_ble_eq_true rfl) h (fun h => ?_)
    refine e_icmp_ge (tgt := 81) (pc' := 31) dX7_lays_28 (by decide) rfl h (fun h => ?_) (fun h => ?_)
    · refine e_iinc (pc' := 84) (v := (x1 + 1)) (lc' := [some (.ref 59), some (.int (x1 + 1)), some (.int x2), none, none]) dX7_lays_81 rfl rfl rfl (Nat.le_of_ble_eq_true rfl) rfl rfl ?_
      refine e_goto (tgt := 7) dX7_lays_84 (by decide) ?_
      exact e_weak (lc' := [some (.ref 59), some (.int (x1 + 1)), none, none, none]) (gle_s (gle_s (gle_n (gle_n (gle_n gle_0))))) (hk7 _ _ _ _ _ h)
    · refine e_iload_n (pc' := 32) (i := 2) rfl rfl dX7_lays_31 rfl ?_
      refine e_iconst (v := 1) (pc' := 33) (by decide) dX7_lays_32 rfl ?_
      refine e_iadd (pc' := 34) dX7_lays_33 rfl ?_
      refine e_istore_n (pc' := 35) (i := 3) (lc' := [some (.ref 59), some (.int x1), some (.int x2), some (.int (x2 + 1)), none]) rfl dX7_lays_34 rfl (Nat.le_of_ble_eq_true rfl) rfl rfl ?_
      exact e_weak (lc' := [some (.ref 59), some (.int x1), some (.int x2), some (.int (x2 + 1)), none]) (gle_s (gle_s (gle_s (gle_s (gle_n gle_0))))) (w_X7_lays_p35 _ hk7 _ ih _ _ _ _ _ _ _ _ h)
set_option maxHeartbeats 4000000 in
set_option maxRecDepth 100000 in
theorem w_X7_lays_p7  : ∀ (n : Nat) (x1 : Int32) (I : Nat → Int32) (A : Nat → Nat → Int32) (L : Nat → Int64) (t : gS), f_X7_lays_p7 n x1 I A L = some t → Ev 70 RX7 cX7_lays 5 none 3 7 [some (.ref 59), some (.int x1), none, none, none] [] I A L (none, t) := by
  intro n
  induction n with
  | zero =>
    intro x1 I A L t h
    cases h
  | succ n ih =>
    intro x1 I A L t h
    rw [f_X7_lays_p7] at h
    refine e_iload_n (pc' := 8) (i := 1) rfl rfl dX7_lays_7 rfl ?_
    refine e_aload_n (pc' := 9) (i := 0) rfl rfl dX7_lays_8 rfl ?_
    refine e_getR (a := 59) (b := 60) (k0 := 0) (pc' := 12) dX7_lays_9 rfl rfl (Nat.le_of_ble_eq_true rfl) (Nat.le_of_ble_eq_true rfl) rfl mw_794 rfl ?_
    refine e_iconst (v := 0) (pc' := 13) (by decide) dX7_lays_12 rfl ?_
    refine e_iald (n := 129) (pc' := 14) dX7_lays_13 rfl rfl (Nat.le_of_ble_eq_true rfl) h (fun h => ?_)
    refine e_icmp_ge (tgt := 87) (pc' := 17) dX7_lays_14 (by decide) rfl h (fun h => ?_) (fun h => ?_)
    · refine e_iconst (v := 0) (pc' := 88) (by decide) dX7_lays_87 rfl ?_
      refine e_istore_n (pc' := 89) (i := 1) (lc' := [some (.ref 59), some (.int 0), none, none, none]) rfl dX7_lays_88 rfl (Nat.le_of_ble_eq_true rfl) rfl rfl ?_
      exact e_weak (lc' := [some (.ref 59), some (.int 0), none, none, none]) (gle_s (gle_s (gle_n (gle_n (gle_n gle_0))))) (w_X7_lays_p89  _ _ _ _ _ _ h)
    · refine e_iload_n (pc' := 18) (i := 1) rfl rfl dX7_lays_17 rfl ?_
      refine e_iconst (v := 1) (pc' := 19) (by decide) dX7_lays_18 rfl ?_
      refine e_iadd (pc' := 20) dX7_lays_19 rfl ?_
      refine e_istore_n (pc' := 21) (i := 2) (lc' := [some (.ref 59), some (.int x1), some (.int (x1 + 1)), none, none]) rfl dX7_lays_20 rfl (Nat.le_of_ble_eq_true rfl) rfl rfl ?_
      exact e_weak (lc' := [some (.ref 59), some (.int x1), some (.int (x1 + 1)), none, none]) (gle_s (gle_s (gle_s (gle_n (gle_n gle_0))))) (w_X7_lays_p21 _ ih _ _ _ _ _ _ _ h)
set_option maxHeartbeats 4000000 in
set_option maxRecDepth 100000 in
theorem c_X7_lays  {I : Nat → Int32} {A : Nat → Nat → Int32} {L : Nat → Int64} {I' : Nat → Int32} {A' : Nat → Nat → Int32} {L' : Nat → Int64} (h : f_X7_lays   I A L = some (I', A', L')) : GM 70 yX7_lays cX7_lays 5 none 3 [.ref 59] I A L (none, (I', A', L')) := by
  refine gm_of (n := 4) (lc := [some (.ref 59), none, none, none, none]) (by decide +kernel) rfl (fun _ => Nat.le_of_ble_eq_true rfl) ?_
  change Ev 70 RX7 cX7_lays 5 none 3 0 [some (.ref 59), none, none, none, none] [] I A L _
  unfold f_X7_lays at h
  refine e_aload_n (pc' := 1) (i := 0) rfl rfl dX7_lays_0 rfl ?_
  refine e_iconst (v := 0) (pc' := 2) (by decide) dX7_lays_1 rfl ?_
  refine e_putI (a := 59) (n := 955) (k0 := 11) (pc' := 5) dX7_lays_2 rfl rfl (Nat.le_of_ble_eq_true rfl) (Nat.le_of_ble_eq_true rfl) rfl mw_805 rfl rfl g_pI rfl rfl ?_
  refine e_ltI h (fun I1 h => ?_)
  refine e_iconst (v := 0) (pc' := 6) (by decide) dX7_lays_5 rfl ?_
  refine e_istore_n (pc' := 7) (i := 1) (lc' := [some (.ref 59), some (.int 0), none, none, none]) rfl dX7_lays_6 rfl (Nat.le_of_ble_eq_true rfl) rfl rfl ?_
  exact e_weak (lc' := [some (.ref 59), some (.int 0), none, none, none]) (gle_s (gle_s (gle_n (gle_n (gle_n gle_0))))) (w_X7_lays_p7  _ _ _ _ _ _ h)
set_option maxHeartbeats 4000000 in
set_option maxRecDepth 100000 in
theorem w_X7_draw_p133  (k49 : Int32 → Int64 → Int32 → (Nat → Int32) → (Nat → Nat → Int32) → (Nat → Int64) → Option (Int32 × gS)) (hk49 : ∀ (x2 : Int32) (x3 : Int64) (x5 : Int32) (I : Nat → Int32) (A : Nat → Nat → Int32) (L : Nat → Int64) (t : (Int32 × gS)), k49 x2 x3 x5 I A L = some t → Ev 70 RX7 cX7_draw 9 (some .int) 4 49 [some (.ref 59), none, some (.int x2), some (.long x3), none, some (.int x5), none, none, none] [] I A L (some (.int t.1), t.2)) : ∀ (x2 : Int32) (x3 : Int64) (x5 : Int32) (x7 : Int32) (x8 : Int32) (s1 : Int32) (I : Nat → Int32) (A : Nat → Nat → Int32) (L : Nat → Int64) (t : (Int32 × gS)), f_X7_draw_p133 k49 x2 x3 x5 x7 x8 s1 I A L = some t → Ev 70 RX7 cX7_draw 9 (some .int) 4 133 [some (.ref 59), none, some (.int x2), some (.long x3), none, some (.int x5), none, some (.int x7), some (.int x8)] [.int s1, .ref 59] I A L (some (.int t.1), t.2) := by
  intro x2 x3 x5 x7 x8 s1 I A L t h
  unfold f_X7_draw_p133 at h
  refine e_iload (pc' := 135) (i := 7) rfl dX7_draw_133 rfl ?_
  refine e_iload (pc' := 137) (i := 8) rfl dX7_draw_135 rfl ?_
  refine e_bipush (v := 10) (pc' := 139) (by decide) dX7_draw_137 rfl ?_
  refine e_lload_n (pc' := 140) (i := 3) rfl rfl dX7_draw_139 rfl ?_
  refine e_ldc2 (pc' := 143) mw_922 dX7_draw_140 rfl ?_
  refine e_ldiv (pc' := 144) (by decide) dX7_draw_143 rfl ?_
  refine e_ldc2 (pc' := 147) mw_923 dX7_draw_144 rfl ?_
  refine e_lrem (pc' := 148) (by decide) dX7_draw_147 rfl ?_
  refine e_l2i (pc' := 149) dX7_draw_148 rfl ?_
  refine e_iadd (pc' := 150) dX7_draw_149 rfl ?_
  obtain ⟨I2, A3, L4, hF1, h⟩ := g_b1_e h
  refine e_callV_v (pc' := 153) dX7_draw_150 rfl mw_866 mv_X7_comes rfl (Nat.le_of_ble_eq_true rfl) (Nat.le_of_ble_eq_true rfl) rfl (Nat.le_of_ble_eq_true rfl) (Nat.le_of_ble_eq_true rfl) rfl (c_X7_comes _ _ _ _ hF1) rfl ?_
  refine e_iinc (pc' := 156) (v := (x5 + 1)) (lc' := [some (.ref 59), none, some (.int x2), some (.long x3), none, some (.int (x5 + 1)), none, some (.int x7), some (.int x8)]) dX7_draw_153 rfl rfl rfl (Nat.le_of_ble_eq_true rfl) rfl rfl ?_
  refine e_goto (tgt := 49) dX7_draw_156 (by decide) ?_
  exact e_weak (lc' := [some (.ref 59), none, some (.int x2), some (.long x3), none, some (.int (x5 + 1)), none, none, none]) (gle_s (gle_n (gle_s (gle_s (gle_n (gle_s (gle_n (gle_n (gle_n gle_0))))))))) (hk49 _ _ _ _ _ _ _ h)
set_option maxHeartbeats 4000000 in
set_option maxRecDepth 100000 in
theorem w_X7_draw_p131  (k49 : Int32 → Int64 → Int32 → (Nat → Int32) → (Nat → Nat → Int32) → (Nat → Int64) → Option (Int32 × gS)) (hk49 : ∀ (x2 : Int32) (x3 : Int64) (x5 : Int32) (I : Nat → Int32) (A : Nat → Nat → Int32) (L : Nat → Int64) (t : (Int32 × gS)), k49 x2 x3 x5 I A L = some t → Ev 70 RX7 cX7_draw 9 (some .int) 4 49 [some (.ref 59), none, some (.int x2), some (.long x3), none, some (.int x5), none, none, none] [] I A L (some (.int t.1), t.2)) : ∀ (x2 : Int32) (x3 : Int64) (x5 : Int32) (x6 : Int32) (x7 : Int32) (x8 : Int32) (I : Nat → Int32) (A : Nat → Nat → Int32) (L : Nat → Int64) (t : (Int32 × gS)), f_X7_draw_p131 k49 x2 x3 x5 x6 x7 x8 I A L = some t → Ev 70 RX7 cX7_draw 9 (some .int) 4 131 [some (.ref 59), none, some (.int x2), some (.long x3), none, some (.int x5), some (.int x6), some (.int x7), some (.int x8)] [.ref 59] I A L (some (.int t.1), t.2) := by
  intro x2 x3 x5 x6 x7 x8 I A L t h
  unfold f_X7_draw_p131 at h
  refine e_iload (pc' := 133) (i := 6) rfl dX7_draw_131 rfl ?_
  exact e_weak (lc' := [some (.ref 59), none, some (.int x2), some (.long x3), none, some (.int x5), none, some (.int x7), some (.int x8)]) (gle_s (gle_n (gle_s (gle_s (gle_n (gle_s (gle_n (gle_s (gle_s gle_0))))))))) (w_X7_draw_p133 _ hk49 _ _ _ _ _ _ _ _ _ _ h)
set_option maxHeartbeats 4000000 in
set_option maxRecDepth 100000 in
theorem w_X7_draw_p49  : ∀ (n : Nat) (x2 : Int32) (x3 : Int64) (x5 : Int32) (I : Nat → Int32) (A : Nat → Nat → Int32) (L : Nat → Int64) (t : (Int32 × gS)), f_X7_draw_p49 n x2 x3 x5 I A L = some t → Ev 70 RX7 cX7_draw 9 (some .int) 4 49 [some (.ref 59), none, some (.int x2), some (.long x3), none, some (.int x5), none, none, none] [] I A L (some (.int t.1), t.2) := by
  intro n
  induction n with
  | zero =>
    intro x2 x3 x5 I A L t h
    cases h
  | succ n ih =>
    intro x2 x3 x5 I A L t h
    rw [f_X7_draw_p49] at h
    refine e_iload (pc' := 51) (i := 5) rfl dX7_draw_49 rfl ?_
    refine e_iload_n (pc' := 52) (i := 2) rfl rfl dX7_draw_51 rfl ?_
    refine e_icmp_ge (tgt := 159) (pc' := 55) dX7_draw_52 (by decide) rfl h (fun h => ?_) (fun h => ?_)
    · refine e_aload_n (pc' := 160) (i := 0) rfl rfl dX7_draw_159 rfl ?_
      obtain ⟨I2, A3, L4, hF1, h⟩ := g_b1_e h
      refine e_callV_v (pc' := 163) dX7_draw_160 rfl mw_924 mv_X7_lays rfl (Nat.le_of_ble_eq_true rfl) (Nat.le_of_ble_eq_true rfl) rfl (Nat.le_of_ble_eq_true rfl) (Nat.le_of_ble_eq_true rfl) rfl (c_X7_lays hF1) rfl ?_
      refine e_aload_n (pc' := 164) (i := 0) rfl rfl dX7_draw_163 rfl ?_
      refine e_getI (a := 59) (n := 955) (k0 := 11) (pc' := 167) dX7_draw_164 rfl rfl (Nat.le_of_ble_eq_true rfl) (Nat.le_of_ble_eq_true rfl) rfl mw_805 rfl ?_
      obtain rfl := g_re1 h
      exact e_iret dX7_draw_167
    · refine e_lload_n (pc' := 56) (i := 3) rfl rfl dX7_draw_55 rfl ?_
      refine e_ldc2 (pc' := 59) mw_915 dX7_draw_56 rfl ?_
      refine e_lmul (pc' := 60) dX7_draw_59 rfl ?_
      refine e_ldc2 (pc' := 63) mw_916 dX7_draw_60 rfl ?_
      refine e_ladd (pc' := 64) dX7_draw_63 rfl ?_
      refine e_ldc2 (pc' := 67) mw_917 dX7_draw_64 rfl ?_
      refine e_lrem (pc' := 68) (by decide) dX7_draw_67 rfl ?_
      refine e_ltl h (fun v5 h => ?_)
      refine e_lstore_n (pc' := 69) (i := 3) (lc' := [some (.ref 59), none, some (.int x2), some (.long v5), none, some (.int x5), none, none, none]) rfl dX7_draw_68 rfl (Nat.le_of_ble_eq_true rfl) rfl rfl ?_
      refine e_lload_n (pc' := 70) (i := 3) rfl rfl dX7_draw_69 rfl ?_
      refine e_ldc2 (pc' := 73) mw_918 dX7_draw_70 rfl ?_
      refine e_ldiv (pc' := 74) (by decide) dX7_draw_73 rfl ?_
      refine e_ldc2 (pc' := 77) mw_919 dX7_draw_74 rfl ?_
      refine e_lrem (pc' := 78) (by decide) dX7_draw_77 rfl ?_
      refine e_l2i (pc' := 79) dX7_draw_78 rfl ?_
      refine e_iconst (v := 3) (pc' := 80) (by decide) dX7_draw_79 rfl ?_
      refine e_isub (pc' := 81) dX7_draw_80 rfl ?_
      refine e_lt h (fun v6 h => ?_)
      refine e_istore (pc' := 83) (i := 6) (lc' := [some (.ref 59), none, some (.int x2), some (.long v5), none, some (.int x5), some (.int v6), none, none]) dX7_draw_81 rfl (Nat.le_of_ble_eq_true rfl) rfl rfl ?_
      refine e_lload_n (pc' := 84) (i := 3) rfl rfl dX7_draw_83 rfl ?_
      refine e_ldc2 (pc' := 87) mw_920 dX7_draw_84 rfl ?_
      refine e_ldiv (pc' := 88) (by decide) dX7_draw_87 rfl ?_
      refine e_ldc2 (pc' := 91) mw_919 dX7_draw_88 rfl ?_
      refine e_lrem (pc' := 92) (by decide) dX7_draw_91 rfl ?_
      refine e_l2i (pc' := 93) dX7_draw_92 rfl ?_
      refine e_iconst (v := 3) (pc' := 94) (by decide) dX7_draw_93 rfl ?_
      refine e_isub (pc' := 95) dX7_draw_94 rfl ?_
      refine e_lt h (fun v7 h => ?_)
      refine e_istore (pc' := 97) (i := 7) (lc' := [some (.ref 59), none, some (.int x2), some (.long v5), none, some (.int x5), some (.int v6), some (.int v7), none]) dX7_draw_95 rfl (Nat.le_of_ble_eq_true rfl) rfl rfl ?_
      refine e_lload_n (pc' := 98) (i := 3) rfl rfl dX7_draw_97 rfl ?_
      refine e_ldc2 (pc' := 101) mw_921 dX7_draw_98 rfl ?_
      refine e_ldiv (pc' := 102) (by decide) dX7_draw_101 rfl ?_
      refine e_ldc2 (pc' := 105) mw_919 dX7_draw_102 rfl ?_
      refine e_lrem (pc' := 106) (by decide) dX7_draw_105 rfl ?_
      refine e_l2i (pc' := 107) dX7_draw_106 rfl ?_
      refine e_iconst (v := 3) (pc' := 108) (by decide) dX7_draw_107 rfl ?_
      refine e_isub (pc' := 109) dX7_draw_108 rfl ?_
      refine e_lt h (fun v8 h => ?_)
      refine e_istore (pc' := 111) (i := 8) (lc' := [some (.ref 59), none, some (.int x2), some (.long v5), none, some (.int x5), some (.int v6), some (.int v7), some (.int v8)]) dX7_draw_109 rfl (Nat.le_of_ble_eq_true rfl) rfl rfl ?_
      refine e_aload_n (pc' := 112) (i := 0) rfl rfl dX7_draw_111 rfl ?_
      refine e_iload (pc' := 114) (i := 6) rfl dX7_draw_112 rfl ?_
      refine e_if_ne (tgt := 131) (pc' := 117) dX7_draw_114 (by decide) rfl h (fun h => ?_) (fun h => ?_)
      · exact e_weak (lc' := [some (.ref 59), none, some (.int x2), some (.long v5), none, some (.int x5), some (.int v6), some (.int v7), some (.int v8)]) (gle_s (gle_n (gle_s (gle_s (gle_n (gle_s (gle_s (gle_s (gle_s gle_0))))))))) (w_X7_draw_p131 _ ih _ _ _ _ _ _ _ _ _ _ h)
      · refine e_iload (pc' := 119) (i := 7) rfl dX7_draw_117 rfl ?_
        refine e_if_ne (tgt := 131) (pc' := 122) dX7_draw_119 (by decide) rfl h (fun h => ?_) (fun h => ?_)
        · exact e_weak (lc' := [some (.ref 59), none, some (.int x2), some (.long v5), none, some (.int x5), some (.int v6), some (.int v7), some (.int v8)]) (gle_s (gle_n (gle_s (gle_s (gle_n (gle_s (gle_s (gle_s (gle_s gle_0))))))))) (w_X7_draw_p131 _ ih _ _ _ _ _ _ _ _ _ _ h)
        · refine e_iload (pc' := 124) (i := 8) rfl dX7_draw_122 rfl ?_
          refine e_if_ne (tgt := 131) (pc' := 127) dX7_draw_124 (by decide) rfl h (fun h => ?_) (fun h => ?_)
          · exact e_weak (lc' := [some (.ref 59), none, some (.int x2), some (.long v5), none, some (.int x5), some (.int v6), some (.int v7), some (.int v8)]) (gle_s (gle_n (gle_s (gle_s (gle_n (gle_s (gle_s (gle_s (gle_s gle_0))))))))) (w_X7_draw_p131 _ ih _ _ _ _ _ _ _ _ _ _ h)
          · refine e_iconst (v := 1) (pc' := 128) (by decide) dX7_draw_127 rfl ?_
            refine e_goto (tgt := 133) dX7_draw_128 (by decide) ?_
            exact e_weak (lc' := [some (.ref 59), none, some (.int x2), some (.long v5), none, some (.int x5), none, some (.int v7), some (.int v8)]) (gle_s (gle_n (gle_s (gle_s (gle_n (gle_s (gle_n (gle_s (gle_s gle_0))))))))) (w_X7_draw_p133 _ ih _ _ _ _ _ _ _ _ _ _ h)
set_option maxHeartbeats 4000000 in
set_option maxRecDepth 100000 in
theorem w_X7_draw_p20  : ∀ (I : Nat → Int32) (A : Nat → Nat → Int32) (L : Nat → Int64) (t : (Int32 × gS)), f_X7_draw_p20 I A L = some t → Ev 70 RX7 cX7_draw 9 (some .int) 4 20 [some (.ref 59), none, none, none, none, none, none, none, none] [] I A L (some (.int t.1), t.2) := by
  intro  I A L t h
  unfold f_X7_draw_p20 at h
  refine e_aload_n (pc' := 21) (i := 0) rfl rfl dX7_draw_20 rfl ?_
  refine e_bipush (v := (-2)) (pc' := 23) (by decide) dX7_draw_21 rfl ?_
  obtain ⟨v5, I2, A3, L4, hF1, h⟩ := g_b2_e h
  refine e_callV_i (pc' := 26) dX7_draw_23 rfl mw_854 mv_X7_refuses rfl (Nat.le_of_ble_eq_true rfl) (Nat.le_of_ble_eq_true rfl) rfl (Nat.le_of_ble_eq_true rfl) (Nat.le_of_ble_eq_true rfl) rfl (c_X7_refuses _ hF1) rfl ?_
  obtain rfl := g_re1 h
  exact e_iret dX7_draw_26
set_option maxHeartbeats 4000000 in
set_option maxRecDepth 100000 in
theorem c_X7_draw (a0 : Int32) (a1 : Int32) {I : Nat → Int32} {A : Nat → Nat → Int32} {L : Nat → Int64} {t : Int32} {I' : Nat → Int32} {A' : Nat → Nat → Int32} {L' : Nat → Int64} (h : f_X7_draw  a0 a1 I A L = some (t, I', A', L')) : GM 70 yX7_draw cX7_draw 9 (some .int) 4 [.ref 59, .int a0, .int a1] I A L (some (.int t), (I', A', L')) := by
  refine gm_of (n := 6) (lc := [some (.ref 59), some (.int a0), some (.int a1), none, none, none, none, none, none]) (by decide +kernel) rfl (fun _ => Nat.le_of_ble_eq_true rfl) ?_
  change Ev 70 RX7 cX7_draw 9 (some .int) 4 0 [some (.ref 59), some (.int a0), some (.int a1), none, none, none, none, none, none] [] I A L _
  unfold f_X7_draw at h
  refine e_iload_n (pc' := 1) (i := 1) rfl rfl dX7_draw_0 rfl ?_
  refine e_iconst (v := 0) (pc' := 2) (by decide) dX7_draw_1 rfl ?_
  refine e_ldc (pc' := 4) mw_914 dX7_draw_2 rfl ?_
  obtain ⟨v2, hF1, h⟩ := g_bd_e h
  refine e_callS_i (pc' := 7) dX7_draw_4 rfl mw_851 ms_X7_in rfl (Nat.le_of_ble_eq_true rfl) (Nat.le_of_ble_eq_true rfl) (c_X7_in _ _ _ hF1) rfl ?_
  refine e_if_eq (tgt := 20) (pc' := 10) dX7_draw_7 (by decide) rfl h (fun h => ?_) (fun h => ?_)
  · exact e_weak (lc' := [some (.ref 59), none, none, none, none, none, none, none, none]) (gle_s (gle_n (gle_n (gle_n (gle_n (gle_n (gle_n (gle_n (gle_n gle_0))))))))) (w_X7_draw_p20  _ _ _ _ h)
  · refine e_iload_n (pc' := 11) (i := 2) rfl rfl dX7_draw_10 rfl ?_
    refine e_iconst (v := 1) (pc' := 12) (by decide) dX7_draw_11 rfl ?_
    refine e_bipush (v := 26) (pc' := 14) (by decide) dX7_draw_12 rfl ?_
    obtain ⟨v4, hF3, h⟩ := g_bd_e h
    refine e_callS_i (pc' := 17) dX7_draw_14 rfl mw_851 ms_X7_in rfl (Nat.le_of_ble_eq_true rfl) (Nat.le_of_ble_eq_true rfl) (c_X7_in _ _ _ hF3) rfl ?_
    refine e_if_ne (tgt := 27) (pc' := 20) dX7_draw_17 (by decide) rfl h (fun h => ?_) (fun h => ?_)
    · refine e_aload_n (pc' := 28) (i := 0) rfl rfl dX7_draw_27 rfl ?_
      obtain ⟨I6, A7, L8, hF5, h⟩ := g_b1_e h
      refine e_callV_v (pc' := 31) dX7_draw_28 rfl mw_858 mv_X7_aside rfl (Nat.le_of_ble_eq_true rfl) (Nat.le_of_ble_eq_true rfl) rfl (Nat.le_of_ble_eq_true rfl) (Nat.le_of_ble_eq_true rfl) rfl (c_X7_aside hF5) rfl ?_
      refine e_aload_n (pc' := 32) (i := 0) rfl rfl dX7_draw_31 rfl ?_
      obtain ⟨I10, A11, L12, hF9, h⟩ := g_b1_e h
      refine e_callV_v (pc' := 35) dX7_draw_32 rfl mw_862 mv_X7_keeps rfl (Nat.le_of_ble_eq_true rfl) (Nat.le_of_ble_eq_true rfl) rfl (Nat.le_of_ble_eq_true rfl) (Nat.le_of_ble_eq_true rfl) rfl (c_X7_keeps hF9) rfl ?_
      refine e_aload_n (pc' := 36) (i := 0) rfl rfl dX7_draw_35 rfl ?_
      refine e_getR (a := 59) (b := 60) (k0 := 0) (pc' := 39) dX7_draw_36 rfl rfl (Nat.le_of_ble_eq_true rfl) (Nat.le_of_ble_eq_true rfl) rfl mw_794 rfl ?_
      refine e_iconst (v := 0) (pc' := 40) (by decide) dX7_draw_39 rfl ?_
      refine e_bipush (v := 6) (pc' := 42) (by decide) dX7_draw_40 rfl ?_
      refine e_iast (n := 129) (pc' := 43) dX7_draw_42 rfl rfl (Nat.le_of_ble_eq_true rfl) h (fun h => ?_)
      refine e_ltA h (fun A13 h => ?_)
      refine e_iload_n (pc' := 44) (i := 1) rfl rfl dX7_draw_43 rfl ?_
      refine e_i2l (pc' := 45) dX7_draw_44 rfl ?_
      refine e_ltl h (fun v14 h => ?_)
      refine e_lstore_n (pc' := 46) (i := 3) (lc' := [some (.ref 59), some (.int a0), some (.int a1), some (.long v14), none, none, none, none, none]) rfl dX7_draw_45 rfl (Nat.le_of_ble_eq_true rfl) rfl rfl ?_
      refine e_iconst (v := 0) (pc' := 47) (by decide) dX7_draw_46 rfl ?_
      refine e_istore (pc' := 49) (i := 5) (lc' := [some (.ref 59), some (.int a0), some (.int a1), some (.long v14), none, some (.int 0), none, none, none]) dX7_draw_47 rfl (Nat.le_of_ble_eq_true rfl) rfl rfl ?_
      exact e_weak (lc' := [some (.ref 59), none, some (.int a1), some (.long v14), none, some (.int 0), none, none, none]) (gle_s (gle_n (gle_s (gle_s (gle_n (gle_s (gle_n (gle_n (gle_n gle_0))))))))) (w_X7_draw_p49  _ _ _ _ _ _ _ _ h)
    · exact e_weak (lc' := [some (.ref 59), none, none, none, none, none, none, none, none]) (gle_s (gle_n (gle_n (gle_n (gle_n (gle_n (gle_n (gle_n (gle_n gle_0))))))))) (w_X7_draw_p20  _ _ _ _ h)
set_option maxHeartbeats 4000000 in
set_option maxRecDepth 100000 in
theorem c_X7_bad (a0 : Int32) {I : Nat → Int32} {A : Nat → Nat → Int32} {L : Nat → Int64} {t : Int32} {I' : Nat → Int32} {A' : Nat → Nat → Int32} {L' : Nat → Int64} (h : f_X7_bad  a0 I A L = some (t, I', A', L')) : GM 70 yX7_bad cX7_bad 2 (some .int) 0 [.ref 59, .int a0] I A L (some (.int t), (I', A', L')) := by
  refine gm_of (n := 0) (lc := [some (.ref 59), some (.int a0)]) (by decide +kernel) rfl (fun _ => Nat.le_of_ble_eq_true rfl) ?_
  change Ev 70 RX7 cX7_bad 2 (some .int) 0 0 [some (.ref 59), some (.int a0)] [] I A L _
  unfold f_X7_bad at h
  refine e_aload_n (pc' := 1) (i := 0) rfl rfl dX7_bad_0 rfl ?_
  refine e_getR (a := 59) (b := 63) (k0 := 4) (pc' := 4) dX7_bad_1 rfl rfl (Nat.le_of_ble_eq_true rfl) (Nat.le_of_ble_eq_true rfl) rfl mw_798 rfl ?_
  refine e_iconst (v := 0) (pc' := 5) (by decide) dX7_bad_4 rfl ?_
  refine e_dup2 (pc' := 6) rfl rfl dX7_bad_5 rfl ?_
  refine e_iald (n := 3) (pc' := 7) dX7_bad_6 rfl rfl (Nat.le_of_ble_eq_true rfl) h (fun h => ?_)
  refine e_iconst (v := 1) (pc' := 8) (by decide) dX7_bad_7 rfl ?_
  refine e_iadd (pc' := 9) dX7_bad_8 rfl ?_
  refine e_iast (n := 3) (pc' := 10) dX7_bad_9 rfl rfl (Nat.le_of_ble_eq_true rfl) h (fun h => ?_)
  refine e_ltA h (fun A1 h => ?_)
  refine e_iload_n (pc' := 11) (i := 1) rfl rfl dX7_bad_10 rfl ?_
  obtain ⟨rfl, rfl, rfl, rfl⟩ := g_re4 h
  exact e_iret dX7_bad_11
set_option maxHeartbeats 4000000 in
set_option maxRecDepth 100000 in
theorem w_X7_cornersOnBoth_p5 (I : Nat → Int32) (A : Nat → Nat → Int32) (L : Nat → Int64) : ∀ (n : Nat) (x1 : Int32) (x2 : Int32) (x3 : Int32) (x4 : Int32) (t : Int32), f_X7_cornersOnBoth_p5 I A L n x1 x2 x3 x4 = some t → Ev 70 RX7 cX7_cornersOnBoth 5 (some .int) 1 5 [some (.ref 59), some (.int x1), some (.int x2), some (.int x3), some (.int x4)] [] I A L (some (.int t), (I, A, L)) := by
  intro n
  induction n with
  | zero =>
    intro x1 x2 x3 x4 t h
    cases h
  | succ n ih =>
    intro x1 x2 x3 x4 t h
    rw [f_X7_cornersOnBoth_p5] at h
    refine e_iload (pc' := 7) (i := 4) rfl dX7_cornersOnBoth_5 rfl ?_
    refine e_aload_n (pc' := 8) (i := 0) rfl rfl dX7_cornersOnBoth_7 rfl ?_
    refine e_getI (a := 59) (n := 955) (k0 := 11) (pc' := 11) dX7_cornersOnBoth_8 rfl rfl (Nat.le_of_ble_eq_true rfl) (Nat.le_of_ble_eq_true rfl) rfl mw_805 rfl ?_
    refine e_icmp_ge (tgt := 48) (pc' := 14) dX7_cornersOnBoth_11 (by decide) rfl h (fun h => ?_) (fun h => ?_)
    · refine e_iload_n (pc' := 49) (i := 3) rfl rfl dX7_cornersOnBoth_48 rfl ?_
      obtain rfl := g_re1 h
      exact e_iret dX7_cornersOnBoth_49
    · refine e_iload_n (pc' := 15) (i := 3) rfl rfl dX7_cornersOnBoth_14 rfl ?_
      refine e_aload_n (pc' := 16) (i := 0) rfl rfl dX7_cornersOnBoth_15 rfl ?_
      refine e_iload (pc' := 18) (i := 4) rfl dX7_cornersOnBoth_16 rfl ?_
      refine e_iload_n (pc' := 19) (i := 1) rfl rfl dX7_cornersOnBoth_18 rfl ?_
      obtain ⟨v2, hF1, h⟩ := g_bd_e h
      refine e_callV_i (pc' := 22) dX7_cornersOnBoth_19 rfl mw_955 mv_X7_isOn rfl (Nat.le_of_ble_eq_true rfl) (Nat.le_of_ble_eq_true rfl) rfl (Nat.le_of_ble_eq_true rfl) (Nat.le_of_ble_eq_true rfl) rfl (c_X7_isOn _ _ hF1) rfl ?_
      refine e_if_eq (tgt := 39) (pc' := 25) dX7_cornersOnBoth_22 (by decide) rfl h (fun h => ?_) (fun h => ?_)
      · refine e_iconst (v := 0) (pc' := 40) (by decide) dX7_cornersOnBoth_39 rfl ?_
        refine e_iadd (pc' := 41) dX7_cornersOnBoth_40 rfl ?_
        refine e_istore_n (pc' := 42) (i := 3) (lc' := [some (.ref 59), some (.int x1), some (.int x2), some (.int (x3 + 0)), some (.int x4)]) rfl dX7_cornersOnBoth_41 rfl (Nat.le_of_ble_eq_true rfl) rfl rfl ?_
        refine e_iinc (pc' := 45) (v := (x4 + 1)) (lc' := [some (.ref 59), some (.int x1), some (.int x2), some (.int (x3 + 0)), some (.int (x4 + 1))]) dX7_cornersOnBoth_42 rfl rfl rfl (Nat.le_of_ble_eq_true rfl) rfl rfl ?_
        refine e_goto (tgt := 5) dX7_cornersOnBoth_45 (by decide) ?_
        exact e_weak (lc' := [some (.ref 59), some (.int x1), some (.int x2), some (.int (x3 + 0)), some (.int (x4 + 1))]) (gle_s (gle_s (gle_s (gle_s (gle_s gle_0))))) (ih _ _ _ _ _ h)
      · refine e_aload_n (pc' := 26) (i := 0) rfl rfl dX7_cornersOnBoth_25 rfl ?_
        refine e_iload (pc' := 28) (i := 4) rfl dX7_cornersOnBoth_26 rfl ?_
        refine e_iload_n (pc' := 29) (i := 2) rfl rfl dX7_cornersOnBoth_28 rfl ?_
        obtain ⟨v4, hF3, h⟩ := g_bd_e h
        refine e_callV_i (pc' := 32) dX7_cornersOnBoth_29 rfl mw_955 mv_X7_isOn rfl (Nat.le_of_ble_eq_true rfl) (Nat.le_of_ble_eq_true rfl) rfl (Nat.le_of_ble_eq_true rfl) (Nat.le_of_ble_eq_true rfl) rfl (c_X7_isOn _ _ hF3) rfl ?_
        refine e_if_eq (tgt := 39) (pc' := 35) dX7_cornersOnBoth_32 (by decide) rfl h (fun h => ?_) (fun h => ?_)
        · refine e_iconst (v := 0) (pc' := 40) (by decide) dX7_cornersOnBoth_39 rfl ?_
          refine e_iadd (pc' := 41) dX7_cornersOnBoth_40 rfl ?_
          refine e_istore_n (pc' := 42) (i := 3) (lc' := [some (.ref 59), some (.int x1), some (.int x2), some (.int (x3 + 0)), some (.int x4)]) rfl dX7_cornersOnBoth_41 rfl (Nat.le_of_ble_eq_true rfl) rfl rfl ?_
          refine e_iinc (pc' := 45) (v := (x4 + 1)) (lc' := [some (.ref 59), some (.int x1), some (.int x2), some (.int (x3 + 0)), some (.int (x4 + 1))]) dX7_cornersOnBoth_42 rfl rfl rfl (Nat.le_of_ble_eq_true rfl) rfl rfl ?_
          refine e_goto (tgt := 5) dX7_cornersOnBoth_45 (by decide) ?_
          exact e_weak (lc' := [some (.ref 59), some (.int x1), some (.int x2), some (.int (x3 + 0)), some (.int (x4 + 1))]) (gle_s (gle_s (gle_s (gle_s (gle_s gle_0))))) (ih _ _ _ _ _ h)
        · refine e_iconst (v := 1) (pc' := 36) (by decide) dX7_cornersOnBoth_35 rfl ?_
          refine e_goto (tgt := 40) dX7_cornersOnBoth_36 (by decide) ?_
          refine e_iadd (pc' := 41) dX7_cornersOnBoth_40 rfl ?_
          refine e_istore_n (pc' := 42) (i := 3) (lc' := [some (.ref 59), some (.int x1), some (.int x2), some (.int (x3 + 1)), some (.int x4)]) rfl dX7_cornersOnBoth_41 rfl (Nat.le_of_ble_eq_true rfl) rfl rfl ?_
          refine e_iinc (pc' := 45) (v := (x4 + 1)) (lc' := [some (.ref 59), some (.int x1), some (.int x2), some (.int (x3 + 1)), some (.int (x4 + 1))]) dX7_cornersOnBoth_42 rfl rfl rfl (Nat.le_of_ble_eq_true rfl) rfl rfl ?_
          refine e_goto (tgt := 5) dX7_cornersOnBoth_45 (by decide) ?_
          exact e_weak (lc' := [some (.ref 59), some (.int x1), some (.int x2), some (.int (x3 + 1)), some (.int (x4 + 1))]) (gle_s (gle_s (gle_s (gle_s (gle_s gle_0))))) (ih _ _ _ _ _ h)
set_option maxHeartbeats 4000000 in
set_option maxRecDepth 100000 in
theorem c_X7_cornersOnBoth (a0 : Int32) (a1 : Int32) {I : Nat → Int32} {A : Nat → Nat → Int32} {L : Nat → Int64} {t : Int32} (h : f_X7_cornersOnBoth I A L a0 a1 = some t) : GM 70 yX7_cornersOnBoth cX7_cornersOnBoth 5 (some .int) 1 [.ref 59, .int a0, .int a1] I A L (some (.int t), (I, A, L)) := by
  refine gm_of (n := 2) (lc := [some (.ref 59), some (.int a0), some (.int a1), none, none]) (by decide +kernel) rfl (fun _ => Nat.le_of_ble_eq_true rfl) ?_
  change Ev 70 RX7 cX7_cornersOnBoth 5 (some .int) 1 0 [some (.ref 59), some (.int a0), some (.int a1), none, none] [] I A L _
  unfold f_X7_cornersOnBoth at h
  refine e_iconst (v := 0) (pc' := 1) (by decide) dX7_cornersOnBoth_0 rfl ?_
  refine e_istore_n (pc' := 2) (i := 3) (lc' := [some (.ref 59), some (.int a0), some (.int a1), some (.int 0), none]) rfl dX7_cornersOnBoth_1 rfl (Nat.le_of_ble_eq_true rfl) rfl rfl ?_
  refine e_iconst (v := 0) (pc' := 3) (by decide) dX7_cornersOnBoth_2 rfl ?_
  refine e_istore (pc' := 5) (i := 4) (lc' := [some (.ref 59), some (.int a0), some (.int a1), some (.int 0), some (.int 0)]) dX7_cornersOnBoth_3 rfl (Nat.le_of_ble_eq_true rfl) rfl rfl ?_
  exact e_weak (lc' := [some (.ref 59), some (.int a0), some (.int a1), some (.int 0), some (.int 0)]) (gle_s (gle_s (gle_s (gle_s (gle_s gle_0))))) (w_X7_cornersOnBoth_p5 I A L  _ _ _ _ _ _ h)
set_option maxHeartbeats 4000000 in
set_option maxRecDepth 100000 in
theorem c_X7_isEdge (a0 : Int32) (a1 : Int32) {I : Nat → Int32} {A : Nat → Nat → Int32} {L : Nat → Int64} {t : Int32} (h : f_X7_isEdge I A L a0 a1 = some t) : GM 70 yX7_isEdge cX7_isEdge 3 (some .boolean) 2 [.ref 59, .int a0, .int a1] I A L (some (.int t), (I, A, L)) := by
  refine gm_of (n := 0) (lc := [some (.ref 59), some (.int a0), some (.int a1)]) (by decide +kernel) rfl (fun _ => Nat.le_of_ble_eq_true rfl) ?_
  change Ev 70 RX7 cX7_isEdge 3 (some .boolean) 2 0 [some (.ref 59), some (.int a0), some (.int a1)] [] I A L _
  unfold f_X7_isEdge at h
  refine e_aload_n (pc' := 1) (i := 0) rfl rfl dX7_isEdge_0 rfl ?_
  refine e_getR (a := 59) (b := 66) (k0 := 12) (pc' := 4) dX7_isEdge_1 rfl rfl (Nat.le_of_ble_eq_true rfl) (Nat.le_of_ble_eq_true rfl) rfl mw_806 rfl ?_
  refine e_iload_n (pc' := 5) (i := 1) rfl rfl dX7_isEdge_4 rfl ?_
  refine e_zald (n := 32) (pc' := 6) dX7_isEdge_5 rfl rfl (Nat.le_of_ble_eq_true rfl) h (fun h => ?_)
  refine e_if_eq (tgt := 32) (pc' := 9) dX7_isEdge_6 (by decide) rfl h (fun h => ?_) (fun h => ?_)
  · refine e_iconst (v := 0) (pc' := 33) (by decide) dX7_isEdge_32 rfl ?_
    obtain rfl := g_re1 h
    exact e_zret dX7_isEdge_33 (by decide)
  · refine e_aload_n (pc' := 10) (i := 0) rfl rfl dX7_isEdge_9 rfl ?_
    refine e_getR (a := 59) (b := 66) (k0 := 12) (pc' := 13) dX7_isEdge_10 rfl rfl (Nat.le_of_ble_eq_true rfl) (Nat.le_of_ble_eq_true rfl) rfl mw_806 rfl ?_
    refine e_iload_n (pc' := 14) (i := 2) rfl rfl dX7_isEdge_13 rfl ?_
    refine e_zald (n := 32) (pc' := 15) dX7_isEdge_14 rfl rfl (Nat.le_of_ble_eq_true rfl) h (fun h => ?_)
    refine e_if_eq (tgt := 32) (pc' := 18) dX7_isEdge_15 (by decide) rfl h (fun h => ?_) (fun h => ?_)
    · refine e_iconst (v := 0) (pc' := 33) (by decide) dX7_isEdge_32 rfl ?_
      obtain rfl := g_re1 h
      exact e_zret dX7_isEdge_33 (by decide)
    · refine e_aload_n (pc' := 19) (i := 0) rfl rfl dX7_isEdge_18 rfl ?_
      refine e_iload_n (pc' := 20) (i := 1) rfl rfl dX7_isEdge_19 rfl ?_
      refine e_iload_n (pc' := 21) (i := 2) rfl rfl dX7_isEdge_20 rfl ?_
      obtain ⟨v2, hF1, h⟩ := g_bd_e h
      refine e_callV_i (pc' := 24) dX7_isEdge_21 rfl mw_979 mv_X7_cornersOnBoth rfl (Nat.le_of_ble_eq_true rfl) (Nat.le_of_ble_eq_true rfl) rfl (Nat.le_of_ble_eq_true rfl) (Nat.le_of_ble_eq_true rfl) rfl (c_X7_cornersOnBoth _ _ hF1) rfl ?_
      refine e_iconst (v := 1) (pc' := 25) (by decide) dX7_isEdge_24 rfl ?_
      refine e_icmp_le (tgt := 32) (pc' := 28) dX7_isEdge_25 (by decide) rfl h (fun h => ?_) (fun h => ?_)
      · refine e_iconst (v := 0) (pc' := 33) (by decide) dX7_isEdge_32 rfl ?_
        obtain rfl := g_re1 h
        exact e_zret dX7_isEdge_33 (by decide)
      · refine e_iconst (v := 1) (pc' := 29) (by decide) dX7_isEdge_28 rfl ?_
        refine e_goto (tgt := 33) dX7_isEdge_29 (by decide) ?_
        obtain rfl := g_re1 h
        exact e_zret dX7_isEdge_33 (by decide)
set_option maxHeartbeats 4000000 in
set_option maxRecDepth 100000 in
theorem w_X7_edgesOf_p4 (I : Nat → Int32) (A : Nat → Nat → Int32) (L : Nat → Int64) : ∀ (n : Nat) (x1 : Int32) (x2 : Int32) (x3 : Int32) (t : Int32), f_X7_edgesOf_p4 I A L n x1 x2 x3 = some t → Ev 70 RX7 cX7_edgesOf 4 (some .int) 3 4 [some (.ref 59), some (.int x1), some (.int x2), some (.int x3)] [] I A L (some (.int t), (I, A, L)) := by
  intro n
  induction n with
  | zero =>
    intro x1 x2 x3 t h
    cases h
  | succ n ih =>
    intro x1 x2 x3 t h
    rw [f_X7_edgesOf_p4] at h
    refine e_iload_n (pc' := 5) (i := 3) rfl rfl dX7_edgesOf_4 rfl ?_
    refine e_aload_n (pc' := 6) (i := 0) rfl rfl dX7_edgesOf_5 rfl ?_
    refine e_getR (a := 59) (b := 60) (k0 := 0) (pc' := 9) dX7_edgesOf_6 rfl rfl (Nat.le_of_ble_eq_true rfl) (Nat.le_of_ble_eq_true rfl) rfl mw_794 rfl ?_
    refine e_iconst (v := 0) (pc' := 10) (by decide) dX7_edgesOf_9 rfl ?_
    refine e_iald (n := 129) (pc' := 11) dX7_edgesOf_10 rfl rfl (Nat.le_of_ble_eq_true rfl) h (fun h => ?_)
    refine e_icmp_ge (tgt := 42) (pc' := 14) dX7_edgesOf_11 (by decide) rfl h (fun h => ?_) (fun h => ?_)
    · refine e_iload_n (pc' := 43) (i := 2) rfl rfl dX7_edgesOf_42 rfl ?_
      obtain rfl := g_re1 h
      exact e_iret dX7_edgesOf_43
    · refine e_iload_n (pc' := 15) (i := 2) rfl rfl dX7_edgesOf_14 rfl ?_
      refine e_iload_n (pc' := 16) (i := 3) rfl rfl dX7_edgesOf_15 rfl ?_
      refine e_iload_n (pc' := 17) (i := 1) rfl rfl dX7_edgesOf_16 rfl ?_
      refine e_icmp_eq (tgt := 33) (pc' := 20) dX7_edgesOf_17 (by decide) rfl h (fun h => ?_) (fun h => ?_)
      · refine e_iconst (v := 0) (pc' := 34) (by decide) dX7_edgesOf_33 rfl ?_
        refine e_iadd (pc' := 35) dX7_edgesOf_34 rfl ?_
        refine e_istore_n (pc' := 36) (i := 2) (lc' := [some (.ref 59), some (.int x1), some (.int (x2 + 0)), some (.int x3)]) rfl dX7_edgesOf_35 rfl (Nat.le_of_ble_eq_true rfl) rfl rfl ?_
        refine e_iinc (pc' := 39) (v := (x3 + 1)) (lc' := [some (.ref 59), some (.int x1), some (.int (x2 + 0)), some (.int (x3 + 1))]) dX7_edgesOf_36 rfl rfl rfl (Nat.le_of_ble_eq_true rfl) rfl rfl ?_
        refine e_goto (tgt := 4) dX7_edgesOf_39 (by decide) ?_
        exact e_weak (lc' := [some (.ref 59), some (.int x1), some (.int (x2 + 0)), some (.int (x3 + 1))]) (gle_s (gle_s (gle_s (gle_s gle_0)))) (ih _ _ _ _ h)
      · refine e_aload_n (pc' := 21) (i := 0) rfl rfl dX7_edgesOf_20 rfl ?_
        refine e_iload_n (pc' := 22) (i := 1) rfl rfl dX7_edgesOf_21 rfl ?_
        refine e_iload_n (pc' := 23) (i := 3) rfl rfl dX7_edgesOf_22 rfl ?_
        obtain ⟨v2, hF1, h⟩ := g_bd_e h
        refine e_callV_i (pc' := 26) dX7_edgesOf_23 rfl mw_975 mv_X7_isEdge rfl (Nat.le_of_ble_eq_true rfl) (Nat.le_of_ble_eq_true rfl) rfl (Nat.le_of_ble_eq_true rfl) (Nat.le_of_ble_eq_true rfl) rfl (c_X7_isEdge _ _ hF1) rfl ?_
        refine e_if_eq (tgt := 33) (pc' := 29) dX7_edgesOf_26 (by decide) rfl h (fun h => ?_) (fun h => ?_)
        · refine e_iconst (v := 0) (pc' := 34) (by decide) dX7_edgesOf_33 rfl ?_
          refine e_iadd (pc' := 35) dX7_edgesOf_34 rfl ?_
          refine e_istore_n (pc' := 36) (i := 2) (lc' := [some (.ref 59), some (.int x1), some (.int (x2 + 0)), some (.int x3)]) rfl dX7_edgesOf_35 rfl (Nat.le_of_ble_eq_true rfl) rfl rfl ?_
          refine e_iinc (pc' := 39) (v := (x3 + 1)) (lc' := [some (.ref 59), some (.int x1), some (.int (x2 + 0)), some (.int (x3 + 1))]) dX7_edgesOf_36 rfl rfl rfl (Nat.le_of_ble_eq_true rfl) rfl rfl ?_
          refine e_goto (tgt := 4) dX7_edgesOf_39 (by decide) ?_
          exact e_weak (lc' := [some (.ref 59), some (.int x1), some (.int (x2 + 0)), some (.int (x3 + 1))]) (gle_s (gle_s (gle_s (gle_s gle_0)))) (ih _ _ _ _ h)
        · refine e_iconst (v := 1) (pc' := 30) (by decide) dX7_edgesOf_29 rfl ?_
          refine e_goto (tgt := 34) dX7_edgesOf_30 (by decide) ?_
          refine e_iadd (pc' := 35) dX7_edgesOf_34 rfl ?_
          refine e_istore_n (pc' := 36) (i := 2) (lc' := [some (.ref 59), some (.int x1), some (.int (x2 + 1)), some (.int x3)]) rfl dX7_edgesOf_35 rfl (Nat.le_of_ble_eq_true rfl) rfl rfl ?_
          refine e_iinc (pc' := 39) (v := (x3 + 1)) (lc' := [some (.ref 59), some (.int x1), some (.int (x2 + 1)), some (.int (x3 + 1))]) dX7_edgesOf_36 rfl rfl rfl (Nat.le_of_ble_eq_true rfl) rfl rfl ?_
          refine e_goto (tgt := 4) dX7_edgesOf_39 (by decide) ?_
          exact e_weak (lc' := [some (.ref 59), some (.int x1), some (.int (x2 + 1)), some (.int (x3 + 1))]) (gle_s (gle_s (gle_s (gle_s gle_0)))) (ih _ _ _ _ h)
set_option maxHeartbeats 4000000 in
set_option maxRecDepth 100000 in
theorem c_X7_edgesOf (a0 : Int32) {I : Nat → Int32} {A : Nat → Nat → Int32} {L : Nat → Int64} {t : Int32} (h : f_X7_edgesOf I A L a0 = some t) : GM 70 yX7_edgesOf cX7_edgesOf 4 (some .int) 3 [.ref 59, .int a0] I A L (some (.int t), (I, A, L)) := by
  refine gm_of (n := 2) (lc := [some (.ref 59), some (.int a0), none, none]) (by decide +kernel) rfl (fun _ => Nat.le_of_ble_eq_true rfl) ?_
  change Ev 70 RX7 cX7_edgesOf 4 (some .int) 3 0 [some (.ref 59), some (.int a0), none, none] [] I A L _
  unfold f_X7_edgesOf at h
  refine e_iconst (v := 0) (pc' := 1) (by decide) dX7_edgesOf_0 rfl ?_
  refine e_istore_n (pc' := 2) (i := 2) (lc' := [some (.ref 59), some (.int a0), some (.int 0), none]) rfl dX7_edgesOf_1 rfl (Nat.le_of_ble_eq_true rfl) rfl rfl ?_
  refine e_iconst (v := 0) (pc' := 3) (by decide) dX7_edgesOf_2 rfl ?_
  refine e_istore_n (pc' := 4) (i := 3) (lc' := [some (.ref 59), some (.int a0), some (.int 0), some (.int 0)]) rfl dX7_edgesOf_3 rfl (Nat.le_of_ble_eq_true rfl) rfl rfl ?_
  exact e_weak (lc' := [some (.ref 59), some (.int a0), some (.int 0), some (.int 0)]) (gle_s (gle_s (gle_s (gle_s gle_0)))) (w_X7_edgesOf_p4 I A L  _ _ _ _ _ h)
set_option maxHeartbeats 4000000 in
set_option maxRecDepth 100000 in
theorem w_X7_of_p18  : ∀ (I : Nat → Int32) (A : Nat → Nat → Int32) (L : Nat → Int64) (t : (Int32 × gS)), f_X7_of_p18 I A L = some t → Ev 70 RX7 cX7_of 3 (some .int) 4 18 [some (.ref 59), none, none] [] I A L (some (.int t.1), t.2) := by
  intro  I A L t h
  unfold f_X7_of_p18 at h
  refine e_aload_n (pc' := 19) (i := 0) rfl rfl dX7_of_18 rfl ?_
  refine e_bipush (v := (-100)) (pc' := 21) (by decide) dX7_of_19 rfl ?_
  obtain ⟨v5, I2, A3, L4, hF1, h⟩ := g_b2_e h
  refine e_callV_i (pc' := 24) dX7_of_21 rfl mw_967 mv_X7_bad rfl (Nat.le_of_ble_eq_true rfl) (Nat.le_of_ble_eq_true rfl) rfl (Nat.le_of_ble_eq_true rfl) (Nat.le_of_ble_eq_true rfl) rfl (c_X7_bad _ hF1) rfl ?_
  obtain rfl := g_re1 h
  exact e_iret dX7_of_24
set_option maxHeartbeats 4000000 in
set_option maxRecDepth 100000 in
theorem c_X7_of (a0 : Int32) (a1 : Int32) {I : Nat → Int32} {A : Nat → Nat → Int32} {L : Nat → Int64} {t : Int32} {I' : Nat → Int32} {A' : Nat → Nat → Int32} {L' : Nat → Int64} (h : f_X7_of  a0 a1 I A L = some (t, I', A', L')) : GM 70 yX7_of cX7_of 3 (some .int) 4 [.ref 59, .int a0, .int a1] I A L (some (.int t), (I', A', L')) := by
  refine gm_of (n := 0) (lc := [some (.ref 59), some (.int a0), some (.int a1)]) (by decide +kernel) rfl (fun _ => Nat.le_of_ble_eq_true rfl) ?_
  change Ev 70 RX7 cX7_of 3 (some .int) 4 0 [some (.ref 59), some (.int a0), some (.int a1)] [] I A L _
  unfold f_X7_of at h
  refine e_aload_n (pc' := 1) (i := 0) rfl rfl dX7_of_0 rfl ?_
  refine e_iload_n (pc' := 2) (i := 1) rfl rfl dX7_of_1 rfl ?_
  obtain ⟨v2, hF1, h⟩ := g_bd_e h
  refine e_callV_i (pc' := 5) dX7_of_2 rfl mw_890 mv_X7_isPlane rfl (Nat.le_of_ble_eq_true rfl) (Nat.le_of_ble_eq_true rfl) rfl (Nat.le_of_ble_eq_true rfl) (Nat.le_of_ble_eq_true rfl) rfl (c_X7_isPlane _ hF1) rfl ?_
  refine e_if_eq (tgt := 18) (pc' := 8) dX7_of_5 (by decide) rfl h (fun h => ?_) (fun h => ?_)
  · exact e_weak (lc' := [some (.ref 59), none, none]) (gle_s (gle_n (gle_n gle_0))) (w_X7_of_p18  _ _ _ _ h)
  · refine e_iload_n (pc' := 9) (i := 2) rfl rfl dX7_of_8 rfl ?_
    refine e_iconst (v := 0) (pc' := 10) (by decide) dX7_of_9 rfl ?_
    refine e_bipush (v := 6) (pc' := 12) (by decide) dX7_of_10 rfl ?_
    obtain ⟨v4, hF3, h⟩ := g_bd_e h
    refine e_callS_i (pc' := 15) dX7_of_12 rfl mw_851 ms_X7_in rfl (Nat.le_of_ble_eq_true rfl) (Nat.le_of_ble_eq_true rfl) (c_X7_in _ _ _ hF3) rfl ?_
    refine e_if_ne (tgt := 25) (pc' := 18) dX7_of_15 (by decide) rfl h (fun h => ?_) (fun h => ?_)
    · refine e_iload_n (pc' := 26) (i := 2) rfl rfl dX7_of_25 rfl ?_
      refine e_iconst (v := 4) (pc' := 27) (by decide) dX7_of_26 rfl ?_
      refine e_icmp_ge (tgt := 37) (pc' := 30) dX7_of_27 (by decide) rfl h (fun h => ?_) (fun h => ?_)
      · refine e_aload_n (pc' := 38) (i := 0) rfl rfl dX7_of_37 rfl ?_
        obtain ⟨I6, A7, L8, hF5, h⟩ := g_b1_e h
        refine e_callV_v (pc' := 41) dX7_of_38 rfl mw_924 mv_X7_lays rfl (Nat.le_of_ble_eq_true rfl) (Nat.le_of_ble_eq_true rfl) rfl (Nat.le_of_ble_eq_true rfl) (Nat.le_of_ble_eq_true rfl) rfl (c_X7_lays hF5) rfl ?_
        refine e_iload_n (pc' := 42) (i := 2) rfl rfl dX7_of_41 rfl ?_
        refine e_iconst (v := 4) (pc' := 43) (by decide) dX7_of_42 rfl ?_
        refine e_icmp_ne (tgt := 63) (pc' := 46) dX7_of_43 (by decide) rfl h (fun h => ?_) (fun h => ?_)
        · refine e_iload_n (pc' := 64) (i := 2) rfl rfl dX7_of_63 rfl ?_
          refine e_iconst (v := 5) (pc' := 65) (by decide) dX7_of_64 rfl ?_
          refine e_icmp_ne (tgt := 76) (pc' := 68) dX7_of_65 (by decide) rfl h (fun h => ?_) (fun h => ?_)
          · refine e_aload_n (pc' := 77) (i := 0) rfl rfl dX7_of_76 rfl ?_
            refine e_iload_n (pc' := 78) (i := 1) rfl rfl dX7_of_77 rfl ?_
            obtain ⟨v10, hF9, h⟩ := g_bd_e h
            refine e_callV_i (pc' := 81) dX7_of_78 rfl mw_971 mv_X7_edgesOf rfl (Nat.le_of_ble_eq_true rfl) (Nat.le_of_ble_eq_true rfl) rfl (Nat.le_of_ble_eq_true rfl) (Nat.le_of_ble_eq_true rfl) rfl (c_X7_edgesOf _ hF9) rfl ?_
            obtain ⟨rfl, rfl, rfl, rfl⟩ := g_re4 h
            exact e_iret dX7_of_81
          · refine e_aload_n (pc' := 69) (i := 0) rfl rfl dX7_of_68 rfl ?_
            refine e_iload_n (pc' := 70) (i := 1) rfl rfl dX7_of_69 rfl ?_
            obtain ⟨v12, hF11, h⟩ := g_bd_e h
            refine e_callV_i (pc' := 73) dX7_of_70 rfl mw_951 mv_X7_cornersOn rfl (Nat.le_of_ble_eq_true rfl) (Nat.le_of_ble_eq_true rfl) rfl (Nat.le_of_ble_eq_true rfl) (Nat.le_of_ble_eq_true rfl) rfl (c_X7_cornersOn _ hF11) rfl ?_
            refine e_goto (tgt := 81) dX7_of_73 (by decide) ?_
            obtain ⟨rfl, rfl, rfl, rfl⟩ := g_re4 h
            exact e_iret dX7_of_81
        · refine e_aload_n (pc' := 47) (i := 0) rfl rfl dX7_of_46 rfl ?_
          refine e_getR (a := 59) (b := 66) (k0 := 12) (pc' := 50) dX7_of_47 rfl rfl (Nat.le_of_ble_eq_true rfl) (Nat.le_of_ble_eq_true rfl) rfl mw_806 rfl ?_
          refine e_iload_n (pc' := 51) (i := 1) rfl rfl dX7_of_50 rfl ?_
          refine e_zald (n := 32) (pc' := 52) dX7_of_51 rfl rfl (Nat.le_of_ble_eq_true rfl) h (fun h => ?_)
          refine e_if_eq (tgt := 59) (pc' := 55) dX7_of_52 (by decide) rfl h (fun h => ?_) (fun h => ?_)
          · refine e_iconst (v := 0) (pc' := 60) (by decide) dX7_of_59 rfl ?_
            refine e_goto (tgt := 81) dX7_of_60 (by decide) ?_
            obtain ⟨rfl, rfl, rfl, rfl⟩ := g_re4 h
            exact e_iret dX7_of_81
          · refine e_iconst (v := 1) (pc' := 56) (by decide) dX7_of_55 rfl ?_
            refine e_goto (tgt := 81) dX7_of_56 (by decide) ?_
            obtain ⟨rfl, rfl, rfl, rfl⟩ := g_re4 h
            exact e_iret dX7_of_81
      · refine e_aload_n (pc' := 31) (i := 0) rfl rfl dX7_of_30 rfl ?_
        refine e_iload_n (pc' := 32) (i := 1) rfl rfl dX7_of_31 rfl ?_
        refine e_iload_n (pc' := 33) (i := 2) rfl rfl dX7_of_32 rfl ?_
        obtain ⟨v14, hF13, h⟩ := g_bd_e h
        refine e_callV_i (pc' := 36) dX7_of_33 rfl mw_894 mv_X7_get rfl (Nat.le_of_ble_eq_true rfl) (Nat.le_of_ble_eq_true rfl) rfl (Nat.le_of_ble_eq_true rfl) (Nat.le_of_ble_eq_true rfl) rfl (c_X7_get _ _ hF13) rfl ?_
        obtain ⟨rfl, rfl, rfl, rfl⟩ := g_re4 h
        exact e_iret dX7_of_36
    · exact e_weak (lc' := [some (.ref 59), none, none]) (gle_s (gle_n (gle_n gle_0))) (w_X7_of_p18  _ _ _ _ h)
set_option maxHeartbeats 4000000 in
set_option maxRecDepth 100000 in
theorem w_X7_member_p59  : ∀ (n : Nat) (x5 : Int32) (x7 : Int32) (x8 : Int32) (I : Nat → Int32) (A : Nat → Nat → Int32) (L : Nat → Int64) (t : (Int32 × gS)), f_X7_member_p59 n x5 x7 x8 I A L = some t → Ev 70 RX7 cX7_member 9 (some .int) 2 59 [some (.ref 59), none, none, none, none, some (.int x5), none, some (.int x7), some (.int x8)] [] I A L (some (.int t.1), t.2) := by
  intro n
  induction n with
  | zero =>
    intro x5 x7 x8 I A L t h
    cases h
  | succ n ih =>
    intro x5 x7 x8 I A L t h
    rw [f_X7_member_p59] at h
    refine e_iload (pc' := 61) (i := 8) rfl dX7_member_59 rfl ?_
    refine e_sipush (v := 343) (pc' := 64) (by decide) dX7_member_61 rfl ?_
    refine e_icmp_ge (tgt := 120) (pc' := 67) dX7_member_64 (by decide) rfl h (fun h => ?_) (fun h => ?_)
    · refine e_bipush (v := (-5)) (pc' := 122) (by decide) dX7_member_120 rfl ?_
      obtain rfl := g_re1 h
      exact e_iret dX7_member_122
    · refine e_aload_n (pc' := 68) (i := 0) rfl rfl dX7_member_67 rfl ?_
      refine e_getR (a := 59) (b := 67) (k0 := 13) (pc' := 71) dX7_member_68 rfl rfl (Nat.le_of_ble_eq_true rfl) (Nat.le_of_ble_eq_true rfl) rfl mw_807 rfl ?_
      refine e_iload (pc' := 73) (i := 8) rfl dX7_member_71 rfl ?_
      refine e_zald (n := 343) (pc' := 74) dX7_member_73 rfl rfl (Nat.le_of_ble_eq_true rfl) h (fun h => ?_)
      refine e_if_eq (tgt := 114) (pc' := 77) dX7_member_74 (by decide) rfl h (fun h => ?_) (fun h => ?_)
      · refine e_iinc (pc' := 117) (v := (x8 + 1)) (lc' := [some (.ref 59), none, none, none, none, some (.int x5), none, some (.int x7), some (.int (x8 + 1))]) dX7_member_114 rfl rfl rfl (Nat.le_of_ble_eq_true rfl) rfl rfl ?_
        refine e_goto (tgt := 59) dX7_member_117 (by decide) ?_
        exact e_weak (lc' := [some (.ref 59), none, none, none, none, some (.int x5), none, some (.int x7), some (.int (x8 + 1))]) (gle_s (gle_n (gle_n (gle_n (gle_n (gle_s (gle_n (gle_s (gle_s gle_0))))))))) (ih _ _ _ _ _ _ _ h)
      · refine e_iload (pc' := 79) (i := 7) rfl dX7_member_77 rfl ?_
        refine e_iload (pc' := 81) (i := 5) rfl dX7_member_79 rfl ?_
        refine e_icmp_ne (tgt := 111) (pc' := 84) dX7_member_81 (by decide) rfl h (fun h => ?_) (fun h => ?_)
        · refine e_iinc (pc' := 114) (v := (x7 + 1)) (lc' := [some (.ref 59), none, none, none, none, some (.int x5), none, some (.int (x7 + 1)), some (.int x8)]) dX7_member_111 rfl rfl rfl (Nat.le_of_ble_eq_true rfl) rfl rfl ?_
          refine e_iinc (pc' := 117) (v := (x8 + 1)) (lc' := [some (.ref 59), none, none, none, none, some (.int x5), none, some (.int (x7 + 1)), some (.int (x8 + 1))]) dX7_member_114 rfl rfl rfl (Nat.le_of_ble_eq_true rfl) rfl rfl ?_
          refine e_goto (tgt := 59) dX7_member_117 (by decide) ?_
          exact e_weak (lc' := [some (.ref 59), none, none, none, none, some (.int x5), none, some (.int (x7 + 1)), some (.int (x8 + 1))]) (gle_s (gle_n (gle_n (gle_n (gle_n (gle_s (gle_n (gle_s (gle_s gle_0))))))))) (ih _ _ _ _ _ _ _ h)
        · refine e_bipush (v := 100) (pc' := 86) (by decide) dX7_member_84 rfl ?_
          refine e_iload (pc' := 88) (i := 8) rfl dX7_member_86 rfl ?_
          refine e_bipush (v := 49) (pc' := 90) (by decide) dX7_member_88 rfl ?_
          refine e_idiv (pc' := 91) (by decide) dX7_member_90 rfl ?_
          refine e_imul (pc' := 92) dX7_member_91 rfl ?_
          refine e_bipush (v := 10) (pc' := 94) (by decide) dX7_member_92 rfl ?_
          refine e_iload (pc' := 96) (i := 8) rfl dX7_member_94 rfl ?_
          refine e_bipush (v := 7) (pc' := 98) (by decide) dX7_member_96 rfl ?_
          refine e_idiv (pc' := 99) (by decide) dX7_member_98 rfl ?_
          refine e_bipush (v := 7) (pc' := 101) (by decide) dX7_member_99 rfl ?_
          refine e_irem (pc' := 102) (by decide) dX7_member_101 rfl ?_
          refine e_imul (pc' := 103) dX7_member_102 rfl ?_
          refine e_iadd (pc' := 104) dX7_member_103 rfl ?_
          refine e_iload (pc' := 106) (i := 8) rfl dX7_member_104 rfl ?_
          refine e_bipush (v := 7) (pc' := 108) (by decide) dX7_member_106 rfl ?_
          refine e_irem (pc' := 109) (by decide) dX7_member_108 rfl ?_
          refine e_iadd (pc' := 110) dX7_member_109 rfl ?_
          obtain rfl := g_re1 h
          exact e_iret dX7_member_110
set_option maxHeartbeats 4000000 in
set_option maxRecDepth 100000 in
theorem w_X7_member_p26  : ∀ (I : Nat → Int32) (A : Nat → Nat → Int32) (L : Nat → Int64) (t : (Int32 × gS)), f_X7_member_p26 I A L = some t → Ev 70 RX7 cX7_member 9 (some .int) 2 26 [some (.ref 59), none, none, none, none, none, none, none, none] [] I A L (some (.int t.1), t.2) := by
  intro  I A L t h
  unfold f_X7_member_p26 at h
  refine e_aload_n (pc' := 27) (i := 0) rfl rfl dX7_member_26 rfl ?_
  refine e_bipush (v := (-10)) (pc' := 29) (by decide) dX7_member_27 rfl ?_
  obtain ⟨v5, I2, A3, L4, hF1, h⟩ := g_b2_e h
  refine e_callV_i (pc' := 32) dX7_member_29 rfl mw_967 mv_X7_bad rfl (Nat.le_of_ble_eq_true rfl) (Nat.le_of_ble_eq_true rfl) rfl (Nat.le_of_ble_eq_true rfl) (Nat.le_of_ble_eq_true rfl) rfl (c_X7_bad _ hF1) rfl ?_
  obtain rfl := g_re1 h
  exact e_iret dX7_member_32
set_option maxHeartbeats 4000000 in
set_option maxRecDepth 100000 in
theorem c_X7_member (a0 : Int32) (a1 : Int32) (a2 : Int32) (a3 : Int32) (a4 : Int32) {I : Nat → Int32} {A : Nat → Nat → Int32} {L : Nat → Int64} {t : Int32} {I' : Nat → Int32} {A' : Nat → Nat → Int32} {L' : Nat → Int64} (h : f_X7_member  a0 a1 a2 a3 a4 I A L = some (t, I', A', L')) : GM 70 yX7_member cX7_member 9 (some .int) 2 [.ref 59, .int a0, .int a1, .int a2, .int a3, .int a4] I A L (some (.int t), (I', A', L')) := by
  refine gm_of (n := 3) (lc := [some (.ref 59), some (.int a0), some (.int a1), some (.int a2), some (.int a3), some (.int a4), none, none, none]) (by decide +kernel) rfl (fun _ => Nat.le_of_ble_eq_true rfl) ?_
  change Ev 70 RX7 cX7_member 9 (some .int) 2 0 [some (.ref 59), some (.int a0), some (.int a1), some (.int a2), some (.int a3), some (.int a4), none, none, none] [] I A L _
  unfold f_X7_member at h
  refine e_iload_n (pc' := 1) (i := 1) rfl rfl dX7_member_0 rfl ?_
  refine e_iconst (v := 0) (pc' := 2) (by decide) dX7_member_1 rfl ?_
  refine e_bipush (v := 63) (pc' := 4) (by decide) dX7_member_2 rfl ?_
  obtain ⟨v2, hF1, h⟩ := g_bd_e h
  refine e_callS_i (pc' := 7) dX7_member_4 rfl mw_851 ms_X7_in rfl (Nat.le_of_ble_eq_true rfl) (Nat.le_of_ble_eq_true rfl) (c_X7_in _ _ _ hF1) rfl ?_
  refine e_if_eq (tgt := 26) (pc' := 10) dX7_member_7 (by decide) rfl h (fun h => ?_) (fun h => ?_)
  · exact e_weak (lc' := [some (.ref 59), none, none, none, none, none, none, none, none]) (gle_s (gle_n (gle_n (gle_n (gle_n (gle_n (gle_n (gle_n (gle_n gle_0))))))))) (w_X7_member_p26  _ _ _ _ h)
  · refine e_iload_n (pc' := 11) (i := 2) rfl rfl dX7_member_10 rfl ?_
    refine e_iload_n (pc' := 12) (i := 3) rfl rfl dX7_member_11 rfl ?_
    refine e_iload (pc' := 14) (i := 4) rfl dX7_member_12 rfl ?_
    obtain ⟨v4, hF3, h⟩ := g_bd_e h
    refine e_callS_i (pc' := 17) dX7_member_14 rfl mw_848 ms_X7_isSign rfl (Nat.le_of_ble_eq_true rfl) (Nat.le_of_ble_eq_true rfl) (c_X7_isSign _ _ _ hF3) rfl ?_
    refine e_if_eq (tgt := 26) (pc' := 20) dX7_member_17 (by decide) rfl h (fun h => ?_) (fun h => ?_)
    · exact e_weak (lc' := [some (.ref 59), none, none, none, none, none, none, none, none]) (gle_s (gle_n (gle_n (gle_n (gle_n (gle_n (gle_n (gle_n (gle_n gle_0))))))))) (w_X7_member_p26  _ _ _ _ h)
    · refine e_iload (pc' := 22) (i := 5) rfl dX7_member_20 rfl ?_
      refine e_iconst (v := (-1)) (pc' := 23) (by decide) dX7_member_22 rfl ?_
      refine e_icmp_ge (tgt := 33) (pc' := 26) dX7_member_23 (by decide) rfl h (fun h => ?_) (fun h => ?_)
      · refine e_aload_n (pc' := 34) (i := 0) rfl rfl dX7_member_33 rfl ?_
        refine e_iload_n (pc' := 35) (i := 1) rfl rfl dX7_member_34 rfl ?_
        refine e_iload_n (pc' := 36) (i := 2) rfl rfl dX7_member_35 rfl ?_
        refine e_iload_n (pc' := 37) (i := 3) rfl rfl dX7_member_36 rfl ?_
        refine e_iload (pc' := 39) (i := 4) rfl dX7_member_37 rfl ?_
        obtain ⟨v9, I6, A7, L8, hF5, h⟩ := g_b2_e h
        refine e_callV_i (pc' := 42) dX7_member_39 rfl mw_874 mv_X7_laysFamily rfl (Nat.le_of_ble_eq_true rfl) (Nat.le_of_ble_eq_true rfl) rfl (Nat.le_of_ble_eq_true rfl) (Nat.le_of_ble_eq_true rfl) rfl (c_X7_laysFamily _ _ _ _ hF5) rfl ?_
        refine e_istore (pc' := 44) (i := 6) (lc' := [some (.ref 59), some (.int a0), some (.int a1), some (.int a2), some (.int a3), some (.int a4), some (.int v9), none, none]) dX7_member_42 rfl (Nat.le_of_ble_eq_true rfl) rfl rfl ?_
        refine e_iload (pc' := 46) (i := 5) rfl dX7_member_44 rfl ?_
        refine e_iconst (v := (-1)) (pc' := 47) (by decide) dX7_member_46 rfl ?_
        refine e_icmp_ne (tgt := 53) (pc' := 50) dX7_member_47 (by decide) rfl h (fun h => ?_) (fun h => ?_)
        · refine e_iconst (v := 0) (pc' := 54) (by decide) dX7_member_53 rfl ?_
          refine e_istore (pc' := 56) (i := 7) (lc' := [some (.ref 59), some (.int a0), some (.int a1), some (.int a2), some (.int a3), some (.int a4), some (.int v9), some (.int 0), none]) dX7_member_54 rfl (Nat.le_of_ble_eq_true rfl) rfl rfl ?_
          refine e_iconst (v := 0) (pc' := 57) (by decide) dX7_member_56 rfl ?_
          refine e_istore (pc' := 59) (i := 8) (lc' := [some (.ref 59), some (.int a0), some (.int a1), some (.int a2), some (.int a3), some (.int a4), some (.int v9), some (.int 0), some (.int 0)]) dX7_member_57 rfl (Nat.le_of_ble_eq_true rfl) rfl rfl ?_
          exact e_weak (lc' := [some (.ref 59), none, none, none, none, some (.int a4), none, some (.int 0), some (.int 0)]) (gle_s (gle_n (gle_n (gle_n (gle_n (gle_s (gle_n (gle_s (gle_s gle_0))))))))) (w_X7_member_p59  _ _ _ _ _ _ _ _ h)
        · refine e_iload (pc' := 52) (i := 6) rfl dX7_member_50 rfl ?_
          obtain ⟨rfl, rfl, rfl, rfl⟩ := g_re4 h
          exact e_iret dX7_member_52
      · exact e_weak (lc' := [some (.ref 59), none, none, none, none, none, none, none, none]) (gle_s (gle_n (gle_n (gle_n (gle_n (gle_n (gle_n (gle_n (gle_n gle_0))))))))) (w_X7_member_p26  _ _ _ _ h)
set_option maxHeartbeats 4000000 in
set_option maxRecDepth 100000 in
theorem w_X7_showing_p4 (I : Nat → Int32) (A : Nat → Nat → Int32) (L : Nat → Int64) : ∀ (n : Nat) (x1 : Int32) (x2 : Int32) (t : Int32), f_X7_showing_p4 I A L n x1 x2 = some t → Ev 70 RX7 cX7_showing 3 (some .int) 0 4 [some (.ref 59), some (.int x1), some (.int x2)] [] I A L (some (.int t), (I, A, L)) := by
  intro n
  induction n with
  | zero =>
    intro x1 x2 t h
    cases h
  | succ n ih =>
    intro x1 x2 t h
    rw [f_X7_showing_p4] at h
    refine e_iload_n (pc' := 5) (i := 2) rfl rfl dX7_showing_4 rfl ?_
    refine e_aload_n (pc' := 6) (i := 0) rfl rfl dX7_showing_5 rfl ?_
    refine e_getR (a := 59) (b := 60) (k0 := 0) (pc' := 9) dX7_showing_6 rfl rfl (Nat.le_of_ble_eq_true rfl) (Nat.le_of_ble_eq_true rfl) rfl mw_794 rfl ?_
    refine e_iconst (v := 0) (pc' := 10) (by decide) dX7_showing_9 rfl ?_
    refine e_iald (n := 129) (pc' := 11) dX7_showing_10 rfl rfl (Nat.le_of_ble_eq_true rfl) h (fun h => ?_)
    refine e_icmp_ge (tgt := 37) (pc' := 14) dX7_showing_11 (by decide) rfl h (fun h => ?_) (fun h => ?_)
    · refine e_iload_n (pc' := 38) (i := 1) rfl rfl dX7_showing_37 rfl ?_
      obtain rfl := g_re1 h
      exact e_iret dX7_showing_38
    · refine e_iload_n (pc' := 15) (i := 1) rfl rfl dX7_showing_14 rfl ?_
      refine e_aload_n (pc' := 16) (i := 0) rfl rfl dX7_showing_15 rfl ?_
      refine e_getR (a := 59) (b := 66) (k0 := 12) (pc' := 19) dX7_showing_16 rfl rfl (Nat.le_of_ble_eq_true rfl) (Nat.le_of_ble_eq_true rfl) rfl mw_806 rfl ?_
      refine e_iload_n (pc' := 20) (i := 2) rfl rfl dX7_showing_19 rfl ?_
      refine e_zald (n := 32) (pc' := 21) dX7_showing_20 rfl rfl (Nat.le_of_ble_eq_true rfl) h (fun h => ?_)
      refine e_if_eq (tgt := 28) (pc' := 24) dX7_showing_21 (by decide) rfl h (fun h => ?_) (fun h => ?_)
      · refine e_iconst (v := 0) (pc' := 29) (by decide) dX7_showing_28 rfl ?_
        refine e_iadd (pc' := 30) dX7_showing_29 rfl ?_
        refine e_istore_n (pc' := 31) (i := 1) (lc' := [some (.ref 59), some (.int (x1 + 0)), some (.int x2)]) rfl dX7_showing_30 rfl (Nat.le_of_ble_eq_true rfl) rfl rfl ?_
        refine e_iinc (pc' := 34) (v := (x2 + 1)) (lc' := [some (.ref 59), some (.int (x1 + 0)), some (.int (x2 + 1))]) dX7_showing_31 rfl rfl rfl (Nat.le_of_ble_eq_true rfl) rfl rfl ?_
        refine e_goto (tgt := 4) dX7_showing_34 (by decide) ?_
        exact e_weak (lc' := [some (.ref 59), some (.int (x1 + 0)), some (.int (x2 + 1))]) (gle_s (gle_s (gle_s gle_0))) (ih _ _ _ h)
      · refine e_iconst (v := 1) (pc' := 25) (by decide) dX7_showing_24 rfl ?_
        refine e_goto (tgt := 29) dX7_showing_25 (by decide) ?_
        refine e_iadd (pc' := 30) dX7_showing_29 rfl ?_
        refine e_istore_n (pc' := 31) (i := 1) (lc' := [some (.ref 59), some (.int (x1 + 1)), some (.int x2)]) rfl dX7_showing_30 rfl (Nat.le_of_ble_eq_true rfl) rfl rfl ?_
        refine e_iinc (pc' := 34) (v := (x2 + 1)) (lc' := [some (.ref 59), some (.int (x1 + 1)), some (.int (x2 + 1))]) dX7_showing_31 rfl rfl rfl (Nat.le_of_ble_eq_true rfl) rfl rfl ?_
        refine e_goto (tgt := 4) dX7_showing_34 (by decide) ?_
        exact e_weak (lc' := [some (.ref 59), some (.int (x1 + 1)), some (.int (x2 + 1))]) (gle_s (gle_s (gle_s gle_0))) (ih _ _ _ h)
set_option maxHeartbeats 4000000 in
set_option maxRecDepth 100000 in
theorem c_X7_showing  {I : Nat → Int32} {A : Nat → Nat → Int32} {L : Nat → Int64} {t : Int32} (h : f_X7_showing I A L  = some t) : GM 70 yX7_showing cX7_showing 3 (some .int) 0 [.ref 59] I A L (some (.int t), (I, A, L)) := by
  refine gm_of (n := 2) (lc := [some (.ref 59), none, none]) (by decide +kernel) rfl (fun _ => Nat.le_of_ble_eq_true rfl) ?_
  change Ev 70 RX7 cX7_showing 3 (some .int) 0 0 [some (.ref 59), none, none] [] I A L _
  unfold f_X7_showing at h
  refine e_iconst (v := 0) (pc' := 1) (by decide) dX7_showing_0 rfl ?_
  refine e_istore_n (pc' := 2) (i := 1) (lc' := [some (.ref 59), some (.int 0), none]) rfl dX7_showing_1 rfl (Nat.le_of_ble_eq_true rfl) rfl rfl ?_
  refine e_iconst (v := 0) (pc' := 3) (by decide) dX7_showing_2 rfl ?_
  refine e_istore_n (pc' := 4) (i := 2) (lc' := [some (.ref 59), some (.int 0), some (.int 0)]) rfl dX7_showing_3 rfl (Nat.le_of_ble_eq_true rfl) rfl rfl ?_
  exact e_weak (lc' := [some (.ref 59), some (.int 0), some (.int 0)]) (gle_s (gle_s (gle_s gle_0))) (w_X7_showing_p4 I A L  _ _ _ _ h)
set_option maxHeartbeats 4000000 in
set_option maxRecDepth 100000 in
theorem w_X7_edges_p4 (I : Nat → Int32) (A : Nat → Nat → Int32) (L : Nat → Int64) : ∀ (n : Nat) (x1 : Int32) (x2 : Int32) (t : Int32), f_X7_edges_p4 I A L n x1 x2 = some t → Ev 70 RX7 cX7_edges 3 (some .int) 4 4 [some (.ref 59), some (.int x1), some (.int x2)] [] I A L (some (.int t), (I, A, L)) := by
  intro n
  induction n with
  | zero =>
    intro x1 x2 t h
    cases h
  | succ n ih =>
    intro x1 x2 t h
    rw [f_X7_edges_p4] at h
    refine e_iload_n (pc' := 5) (i := 2) rfl rfl dX7_edges_4 rfl ?_
    refine e_aload_n (pc' := 6) (i := 0) rfl rfl dX7_edges_5 rfl ?_
    refine e_getR (a := 59) (b := 60) (k0 := 0) (pc' := 9) dX7_edges_6 rfl rfl (Nat.le_of_ble_eq_true rfl) (Nat.le_of_ble_eq_true rfl) rfl mw_794 rfl ?_
    refine e_iconst (v := 0) (pc' := 10) (by decide) dX7_edges_9 rfl ?_
    refine e_iald (n := 129) (pc' := 11) dX7_edges_10 rfl rfl (Nat.le_of_ble_eq_true rfl) h (fun h => ?_)
    refine e_icmp_ge (tgt := 28) (pc' := 14) dX7_edges_11 (by decide) rfl h (fun h => ?_) (fun h => ?_)
    · refine e_iload_n (pc' := 29) (i := 1) rfl rfl dX7_edges_28 rfl ?_
      refine e_iconst (v := 2) (pc' := 30) (by decide) dX7_edges_29 rfl ?_
      refine e_idiv (pc' := 31) (by decide) dX7_edges_30 rfl ?_
      obtain rfl := g_re1 h
      exact e_iret dX7_edges_31
    · refine e_iload_n (pc' := 15) (i := 1) rfl rfl dX7_edges_14 rfl ?_
      refine e_aload_n (pc' := 16) (i := 0) rfl rfl dX7_edges_15 rfl ?_
      refine e_iload_n (pc' := 17) (i := 2) rfl rfl dX7_edges_16 rfl ?_
      obtain ⟨v2, hF1, h⟩ := g_bd_e h
      refine e_callV_i (pc' := 20) dX7_edges_17 rfl mw_971 mv_X7_edgesOf rfl (Nat.le_of_ble_eq_true rfl) (Nat.le_of_ble_eq_true rfl) rfl (Nat.le_of_ble_eq_true rfl) (Nat.le_of_ble_eq_true rfl) rfl (c_X7_edgesOf _ hF1) rfl ?_
      refine e_iadd (pc' := 21) dX7_edges_20 rfl ?_
      refine e_istore_n (pc' := 22) (i := 1) (lc' := [some (.ref 59), some (.int (x1 + v2)), some (.int x2)]) rfl dX7_edges_21 rfl (Nat.le_of_ble_eq_true rfl) rfl rfl ?_
      refine e_iinc (pc' := 25) (v := (x2 + 1)) (lc' := [some (.ref 59), some (.int (x1 + v2)), some (.int (x2 + 1))]) dX7_edges_22 rfl rfl rfl (Nat.le_of_ble_eq_true rfl) rfl rfl ?_
      refine e_goto (tgt := 4) dX7_edges_25 (by decide) ?_
      exact e_weak (lc' := [some (.ref 59), some (.int (x1 + v2)), some (.int (x2 + 1))]) (gle_s (gle_s (gle_s gle_0))) (ih _ _ _ h)
set_option maxHeartbeats 4000000 in
set_option maxRecDepth 100000 in
theorem c_X7_edges  {I : Nat → Int32} {A : Nat → Nat → Int32} {L : Nat → Int64} {t : Int32} (h : f_X7_edges I A L  = some t) : GM 70 yX7_edges cX7_edges 3 (some .int) 4 [.ref 59] I A L (some (.int t), (I, A, L)) := by
  refine gm_of (n := 2) (lc := [some (.ref 59), none, none]) (by decide +kernel) rfl (fun _ => Nat.le_of_ble_eq_true rfl) ?_
  change Ev 70 RX7 cX7_edges 3 (some .int) 4 0 [some (.ref 59), none, none] [] I A L _
  unfold f_X7_edges at h
  refine e_iconst (v := 0) (pc' := 1) (by decide) dX7_edges_0 rfl ?_
  refine e_istore_n (pc' := 2) (i := 1) (lc' := [some (.ref 59), some (.int 0), none]) rfl dX7_edges_1 rfl (Nat.le_of_ble_eq_true rfl) rfl rfl ?_
  refine e_iconst (v := 0) (pc' := 3) (by decide) dX7_edges_2 rfl ?_
  refine e_istore_n (pc' := 4) (i := 2) (lc' := [some (.ref 59), some (.int 0), some (.int 0)]) rfl dX7_edges_3 rfl (Nat.le_of_ble_eq_true rfl) rfl rfl ?_
  exact e_weak (lc' := [some (.ref 59), some (.int 0), some (.int 0)]) (gle_s (gle_s (gle_s gle_0))) (w_X7_edges_p4 I A L  _ _ _ _ h)
set_option maxHeartbeats 4000000 in
set_option maxRecDepth 100000 in
theorem w_X7_mostOn_p4 (I : Nat → Int32) (A : Nat → Nat → Int32) (L : Nat → Int64) : ∀ (n : Nat) (x1 : Int32) (x2 : Int32) (t : Int32), f_X7_mostOn_p4 I A L n x1 x2 = some t → Ev 70 RX7 cX7_mostOn 3 (some .int) 2 4 [some (.ref 59), some (.int x1), some (.int x2)] [] I A L (some (.int t), (I, A, L)) := by
  intro n
  induction n with
  | zero =>
    intro x1 x2 t h
    cases h
  | succ n ih =>
    intro x1 x2 t h
    rw [f_X7_mostOn_p4] at h
    refine e_iload_n (pc' := 5) (i := 2) rfl rfl dX7_mostOn_4 rfl ?_
    refine e_aload_n (pc' := 6) (i := 0) rfl rfl dX7_mostOn_5 rfl ?_
    refine e_getR (a := 59) (b := 60) (k0 := 0) (pc' := 9) dX7_mostOn_6 rfl rfl (Nat.le_of_ble_eq_true rfl) (Nat.le_of_ble_eq_true rfl) rfl mw_794 rfl ?_
    refine e_iconst (v := 0) (pc' := 10) (by decide) dX7_mostOn_9 rfl ?_
    refine e_iald (n := 129) (pc' := 11) dX7_mostOn_10 rfl rfl (Nat.le_of_ble_eq_true rfl) h (fun h => ?_)
    refine e_icmp_ge (tgt := 48) (pc' := 14) dX7_mostOn_11 (by decide) rfl h (fun h => ?_) (fun h => ?_)
    · refine e_iload_n (pc' := 49) (i := 1) rfl rfl dX7_mostOn_48 rfl ?_
      obtain rfl := g_re1 h
      exact e_iret dX7_mostOn_49
    · refine e_aload_n (pc' := 15) (i := 0) rfl rfl dX7_mostOn_14 rfl ?_
      refine e_getR (a := 59) (b := 66) (k0 := 12) (pc' := 18) dX7_mostOn_15 rfl rfl (Nat.le_of_ble_eq_true rfl) (Nat.le_of_ble_eq_true rfl) rfl mw_806 rfl ?_
      refine e_iload_n (pc' := 19) (i := 2) rfl rfl dX7_mostOn_18 rfl ?_
      refine e_zald (n := 32) (pc' := 20) dX7_mostOn_19 rfl rfl (Nat.le_of_ble_eq_true rfl) h (fun h => ?_)
      refine e_if_eq (tgt := 40) (pc' := 23) dX7_mostOn_20 (by decide) rfl h (fun h => ?_) (fun h => ?_)
      · refine e_iload_n (pc' := 41) (i := 1) rfl rfl dX7_mostOn_40 rfl ?_
        refine e_istore_n (pc' := 42) (i := 1) (lc' := [some (.ref 59), some (.int x1), some (.int x2)]) rfl dX7_mostOn_41 rfl (Nat.le_of_ble_eq_true rfl) rfl rfl ?_
        refine e_iinc (pc' := 45) (v := (x2 + 1)) (lc' := [some (.ref 59), some (.int x1), some (.int (x2 + 1))]) dX7_mostOn_42 rfl rfl rfl (Nat.le_of_ble_eq_true rfl) rfl rfl ?_
        refine e_goto (tgt := 4) dX7_mostOn_45 (by decide) ?_
        exact e_weak (lc' := [some (.ref 59), some (.int x1), some (.int (x2 + 1))]) (gle_s (gle_s (gle_s gle_0))) (ih _ _ _ h)
      · refine e_aload_n (pc' := 24) (i := 0) rfl rfl dX7_mostOn_23 rfl ?_
        refine e_iload_n (pc' := 25) (i := 2) rfl rfl dX7_mostOn_24 rfl ?_
        obtain ⟨v2, hF1, h⟩ := g_bd_e h
        refine e_callV_i (pc' := 28) dX7_mostOn_25 rfl mw_951 mv_X7_cornersOn rfl (Nat.le_of_ble_eq_true rfl) (Nat.le_of_ble_eq_true rfl) rfl (Nat.le_of_ble_eq_true rfl) (Nat.le_of_ble_eq_true rfl) rfl (c_X7_cornersOn _ hF1) rfl ?_
        refine e_iload_n (pc' := 29) (i := 1) rfl rfl dX7_mostOn_28 rfl ?_
        refine e_icmp_le (tgt := 40) (pc' := 32) dX7_mostOn_29 (by decide) rfl h (fun h => ?_) (fun h => ?_)
        · refine e_iload_n (pc' := 41) (i := 1) rfl rfl dX7_mostOn_40 rfl ?_
          refine e_istore_n (pc' := 42) (i := 1) (lc' := [some (.ref 59), some (.int x1), some (.int x2)]) rfl dX7_mostOn_41 rfl (Nat.le_of_ble_eq_true rfl) rfl rfl ?_
          refine e_iinc (pc' := 45) (v := (x2 + 1)) (lc' := [some (.ref 59), some (.int x1), some (.int (x2 + 1))]) dX7_mostOn_42 rfl rfl rfl (Nat.le_of_ble_eq_true rfl) rfl rfl ?_
          refine e_goto (tgt := 4) dX7_mostOn_45 (by decide) ?_
          exact e_weak (lc' := [some (.ref 59), some (.int x1), some (.int (x2 + 1))]) (gle_s (gle_s (gle_s gle_0))) (ih _ _ _ h)
        · refine e_aload_n (pc' := 33) (i := 0) rfl rfl dX7_mostOn_32 rfl ?_
          refine e_iload_n (pc' := 34) (i := 2) rfl rfl dX7_mostOn_33 rfl ?_
          obtain ⟨v4, hF3, h⟩ := g_bd_e h
          refine e_callV_i (pc' := 37) dX7_mostOn_34 rfl mw_951 mv_X7_cornersOn rfl (Nat.le_of_ble_eq_true rfl) (Nat.le_of_ble_eq_true rfl) rfl (Nat.le_of_ble_eq_true rfl) (Nat.le_of_ble_eq_true rfl) rfl (c_X7_cornersOn _ hF3) rfl ?_
          refine e_goto (tgt := 41) dX7_mostOn_37 (by decide) ?_
          refine e_istore_n (pc' := 42) (i := 1) (lc' := [some (.ref 59), some (.int v4), some (.int x2)]) rfl dX7_mostOn_41 rfl (Nat.le_of_ble_eq_true rfl) rfl rfl ?_
          refine e_iinc (pc' := 45) (v := (x2 + 1)) (lc' := [some (.ref 59), some (.int v4), some (.int (x2 + 1))]) dX7_mostOn_42 rfl rfl rfl (Nat.le_of_ble_eq_true rfl) rfl rfl ?_
          refine e_goto (tgt := 4) dX7_mostOn_45 (by decide) ?_
          exact e_weak (lc' := [some (.ref 59), some (.int v4), some (.int (x2 + 1))]) (gle_s (gle_s (gle_s gle_0))) (ih _ _ _ h)
set_option maxHeartbeats 4000000 in
set_option maxRecDepth 100000 in
theorem c_X7_mostOn  {I : Nat → Int32} {A : Nat → Nat → Int32} {L : Nat → Int64} {t : Int32} (h : f_X7_mostOn I A L  = some t) : GM 70 yX7_mostOn cX7_mostOn 3 (some .int) 2 [.ref 59] I A L (some (.int t), (I, A, L)) := by
  refine gm_of (n := 2) (lc := [some (.ref 59), none, none]) (by decide +kernel) rfl (fun _ => Nat.le_of_ble_eq_true rfl) ?_
  change Ev 70 RX7 cX7_mostOn 3 (some .int) 2 0 [some (.ref 59), none, none] [] I A L _
  unfold f_X7_mostOn at h
  refine e_iconst (v := 0) (pc' := 1) (by decide) dX7_mostOn_0 rfl ?_
  refine e_istore_n (pc' := 2) (i := 1) (lc' := [some (.ref 59), some (.int 0), none]) rfl dX7_mostOn_1 rfl (Nat.le_of_ble_eq_true rfl) rfl rfl ?_
  refine e_iconst (v := 0) (pc' := 3) (by decide) dX7_mostOn_2 rfl ?_
  refine e_istore_n (pc' := 4) (i := 2) (lc' := [some (.ref 59), some (.int 0), some (.int 0)]) rfl dX7_mostOn_3 rfl (Nat.le_of_ble_eq_true rfl) rfl rfl ?_
  exact e_weak (lc' := [some (.ref 59), some (.int 0), some (.int 0)]) (gle_s (gle_s (gle_s gle_0))) (w_X7_mostOn_p4 I A L  _ _ _ _ h)
