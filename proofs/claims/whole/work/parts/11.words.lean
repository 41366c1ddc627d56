theorem gin_r {big : List Cond} (ws : List Cond) (ps : List Nat) (hp : ws = ps.filterMap (fun i => big[i]?)) (h : ws.all goodWord = true) : ∀ w ∈ ws, w ∈ big.filter goodWord := by
  intro w hw
  have h1 := List.all_eq_true.mp h w hw
  rw [hp] at hw
  obtain ⟨i, -, hi⟩ := List.mem_filterMap.mp hw
  exact List.mem_filter.mpr ⟨List.mem_of_getElem? hi, h1⟩
theorem mw_0 : Cond.selects RX2 yX2_becomeBox yX2_becomeBox ∈ gT := List.mem_filter.mpr ⟨List.mem_of_getElem? (i := 0) (by decide +kernel), rfl⟩
theorem mw_1 : Cond.selects RX2 yX2_put yX2_put ∈ gT := List.mem_filter.mpr ⟨List.mem_of_getElem? (i := 1) (by decide +kernel), rfl⟩
theorem mw_2 : Cond.selects RX6 yX6_refuseBad yX6_refuseBad ∈ gT := List.mem_filter.mpr ⟨List.mem_of_getElem? (i := 2) (by decide +kernel), rfl⟩
theorem mw_3 : Cond.selects RX6 yX6_refuseFull yX6_refuseFull ∈ gT := List.mem_filter.mpr ⟨List.mem_of_getElem? (i := 3) (by decide +kernel), rfl⟩
theorem mw_4 : Cond.selects RX6 yX6_leaveState yX6_leaveState ∈ gT := List.mem_filter.mpr ⟨List.mem_of_getElem? (i := 4) (by decide +kernel), rfl⟩
theorem mw_5 : Cond.selects RX5 yX5_keep yX5_keep ∈ gT := List.mem_filter.mpr ⟨List.mem_of_getElem? (i := 5) (by decide +kernel), rfl⟩
theorem mw_6 : Cond.selects RX2 yX2_copyFrom yX2_copyFrom ∈ gT := List.mem_filter.mpr ⟨List.mem_of_getElem? (i := 6) (by decide +kernel), rfl⟩
theorem mw_7 : Cond.selects RX6 yX6_forgetCrystal yX6_forgetCrystal ∈ gT := List.mem_filter.mpr ⟨List.mem_of_getElem? (i := 7) (by decide +kernel), rfl⟩
theorem mw_8 : Cond.selects RX0 yX0_gather yX0_gather ∈ gT := List.mem_filter.mpr ⟨List.mem_of_getElem? (i := 8) (by decide +kernel), rfl⟩
theorem mw_9 : Cond.selects RX0 yX0_note yX0_note ∈ gT := List.mem_filter.mpr ⟨List.mem_of_getElem? (i := 9) (by decide +kernel), rfl⟩
theorem mw_10 : Cond.selects RX0 yX0_noteTurned yX0_noteTurned ∈ gT := List.mem_filter.mpr ⟨List.mem_of_getElem? (i := 10) (by decide +kernel), rfl⟩
theorem mw_11 : Cond.selects RX0 yX0_putInOrder yX0_putInOrder ∈ gT := List.mem_filter.mpr ⟨List.mem_of_getElem? (i := 11) (by decide +kernel), rfl⟩
theorem mw_12 : Cond.selects RX2 yX2_putFamily yX2_putFamily ∈ gT := List.mem_filter.mpr ⟨List.mem_of_getElem? (i := 12) (by decide +kernel), rfl⟩
theorem mw_13 : Cond.selects RX6 yX6_isPlane yX6_isPlane ∈ gT := List.mem_filter.mpr ⟨List.mem_of_getElem? (i := 13) (by decide +kernel), rfl⟩
theorem mw_14 : Cond.selects RX2 yX2_takeOut yX2_takeOut ∈ gT := List.mem_filter.mpr ⟨List.mem_of_getElem? (i := 14) (by decide +kernel), rfl⟩
theorem mw_15 : Cond.selects RX6 yX6_putDrawn yX6_putDrawn ∈ gT := List.mem_filter.mpr ⟨List.mem_of_getElem? (i := 15) (by decide +kernel), rfl⟩
theorem mw_16 : Cond.selects RX6 yX6_crystal yX6_crystal ∈ gT := List.mem_filter.mpr ⟨List.mem_of_getElem? (i := 16) (by decide +kernel), rfl⟩
theorem mw_17 : Cond.selects RX4 yX4_cut yX4_cut ∈ gT := List.mem_filter.mpr ⟨List.mem_of_getElem? (i := 17) (by decide +kernel), rfl⟩
theorem mw_18 : Cond.selects RX1 yX1_lay yX1_lay ∈ gT := List.mem_filter.mpr ⟨List.mem_of_getElem? (i := 18) (by decide +kernel), rfl⟩
theorem mw_19 : Cond.selects RX1 yX1_isLeftBy yX1_isLeftBy ∈ gT := List.mem_filter.mpr ⟨List.mem_of_getElem? (i := 19) (by decide +kernel), rfl⟩
theorem mw_20 : Cond.selects RX1 yX1_isLeftBehind yX1_isLeftBehind ∈ gT := List.mem_filter.mpr ⟨List.mem_of_getElem? (i := 20) (by decide +kernel), rfl⟩
theorem mw_21 : Cond.selects RX4 yX4_keepPoint yX4_keepPoint ∈ gT := List.mem_filter.mpr ⟨List.mem_of_getElem? (i := 21) (by decide +kernel), rfl⟩
theorem mw_22 : Cond.selects RX4 yX4_placeOf yX4_placeOf ∈ gT := List.mem_filter.mpr ⟨List.mem_of_getElem? (i := 22) (by decide +kernel), rfl⟩
theorem mw_23 : Cond.selects RX4 yX4_order yX4_order ∈ gT := List.mem_filter.mpr ⟨List.mem_of_getElem? (i := 23) (by decide +kernel), rfl⟩
theorem mw_24 : Cond.selects RX4 yX4_putCorner yX4_putCorner ∈ gT := List.mem_filter.mpr ⟨List.mem_of_getElem? (i := 24) (by decide +kernel), rfl⟩
theorem mw_25 : Cond.selects RX4 yX4_look yX4_look ∈ gT := List.mem_filter.mpr ⟨List.mem_of_getElem? (i := 25) (by decide +kernel), rfl⟩
theorem mw_26 : Cond.selects RX4 yX4_markCornersOn yX4_markCornersOn ∈ gT := List.mem_filter.mpr ⟨List.mem_of_getElem? (i := 26) (by decide +kernel), rfl⟩
theorem mw_27 : Cond.selects RX4 yX4_along yX4_along ∈ gT := List.mem_filter.mpr ⟨List.mem_of_getElem? (i := 27) (by decide +kernel), rfl⟩
theorem mw_28 : Cond.selects RX2 yX2_hasEarlierTwin yX2_hasEarlierTwin ∈ gT := List.mem_filter.mpr ⟨List.mem_of_getElem? (i := 28) (by decide +kernel), rfl⟩
theorem mw_29 : Cond.selects RX2 yX2_areSame yX2_areSame ∈ gT := List.mem_filter.mpr ⟨List.mem_of_getElem? (i := 29) (by decide +kernel), rfl⟩
theorem mw_30 : Cond.selects RX6 yX6_ofPlane yX6_ofPlane ∈ gT := List.mem_filter.mpr ⟨List.mem_of_getElem? (i := 30) (by decide +kernel), rfl⟩
theorem mw_31 : Cond.selects RX4 yX4_isShown yX4_isShown ∈ gT := List.mem_filter.mpr ⟨List.mem_of_getElem? (i := 31) (by decide +kernel), rfl⟩
theorem mw_32 : Cond.selects RX4 yX4_edgesOn yX4_edgesOn ∈ gT := List.mem_filter.mpr ⟨List.mem_of_getElem? (i := 32) (by decide +kernel), rfl⟩
theorem mw_33 : Cond.selects RX4 yX4_showing yX4_showing ∈ gT := List.mem_filter.mpr ⟨List.mem_of_getElem? (i := 33) (by decide +kernel), rfl⟩
theorem mw_34 : Cond.selects RX4 yX4_edges yX4_edges ∈ gT := List.mem_filter.mpr ⟨List.mem_of_getElem? (i := 34) (by decide +kernel), rfl⟩
theorem mw_35 : Cond.selects RX4 yX4_mostCornersOnPlane yX4_mostCornersOnPlane ∈ gT := List.mem_filter.mpr ⟨List.mem_of_getElem? (i := 35) (by decide +kernel), rfl⟩
theorem mw_36 : Cond.selects RX4 yX4_mostPlanesOnCorner yX4_mostPlanesOnCorner ∈ gT := List.mem_filter.mpr ⟨List.mem_of_getElem? (i := 36) (by decide +kernel), rfl⟩
theorem mw_37 : Cond.selects RX6 yX6_refuseNo yX6_refuseNo ∈ gT := List.mem_filter.mpr ⟨List.mem_of_getElem? (i := 37) (by decide +kernel), rfl⟩
theorem mw_38 : Cond.selects RX4 yX4_coordinate yX4_coordinate ∈ gT := List.mem_filter.mpr ⟨List.mem_of_getElem? (i := 38) (by decide +kernel), rfl⟩
theorem mw_39 : Cond.selects RX6 yX6_setFraction yX6_setFraction ∈ gT := List.mem_filter.mpr ⟨List.mem_of_getElem? (i := 39) (by decide +kernel), rfl⟩
theorem mw_40 : Cond.selects RX4 yX4_cornersOnBoth yX4_cornersOnBoth ∈ gT := List.mem_filter.mpr ⟨List.mem_of_getElem? (i := 40) (by decide +kernel), rfl⟩
theorem mw_41 : Cond.selects RX2 yX2_wayBetween yX2_wayBetween ∈ gT := List.mem_filter.mpr ⟨List.mem_of_getElem? (i := 41) (by decide +kernel), rfl⟩
theorem mw_42 : Cond.selects RX4 yX4_farthest yX4_farthest ∈ gT := List.mem_filter.mpr ⟨List.mem_of_getElem? (i := 42) (by decide +kernel), rfl⟩
theorem mw_43 : Cond.selects RX4 yX4_cornersAt yX4_cornersAt ∈ gT := List.mem_filter.mpr ⟨List.mem_of_getElem? (i := 43) (by decide +kernel), rfl⟩
theorem mw_44 : Cond.selects RX4 yX4_isKeptBy yX4_isKeptBy ∈ gT := List.mem_filter.mpr ⟨List.mem_of_getElem? (i := 44) (by decide +kernel), rfl⟩
theorem mw_45 : Cond.selects RX6 yX6_findSpare yX6_findSpare ∈ gT := List.mem_filter.mpr ⟨List.mem_of_getElem? (i := 45) (by decide +kernel), rfl⟩
theorem mw_46 : Cond.selects RX6 yX6_cornersWithout yX6_cornersWithout ∈ gT := List.mem_filter.mpr ⟨List.mem_of_getElem? (i := 46) (by decide +kernel), rfl⟩
theorem mw_47 : Cond.selects RX3 yX3_readAll yX3_readAll ∈ gT := List.mem_filter.mpr ⟨List.mem_of_getElem? (i := 47) (by decide +kernel), rfl⟩
theorem mw_48 : Cond.selects RX3 yX3_readOne yX3_readOne ∈ gT := List.mem_filter.mpr ⟨List.mem_of_getElem? (i := 48) (by decide +kernel), rfl⟩
theorem mw_49 : Cond.selects RX3 yX3_isColonAhead yX3_isColonAhead ∈ gT := List.mem_filter.mpr ⟨List.mem_of_getElem? (i := 49) (by decide +kernel), rfl⟩
theorem mw_50 : Cond.selects RX3 yX3_readTurns yX3_readTurns ∈ gT := List.mem_filter.mpr ⟨List.mem_of_getElem? (i := 50) (by decide +kernel), rfl⟩
theorem mw_51 : Cond.selects RX3 yX3_look yX3_look ∈ gT := List.mem_filter.mpr ⟨List.mem_of_getElem? (i := 51) (by decide +kernel), rfl⟩
theorem mw_52 : Cond.selects RX3 yX3_readSign yX3_readSign ∈ gT := List.mem_filter.mpr ⟨List.mem_of_getElem? (i := 52) (by decide +kernel), rfl⟩
theorem mw_53 : Cond.selects RX3 yX3_readFigure yX3_readFigure ∈ gT := List.mem_filter.mpr ⟨List.mem_of_getElem? (i := 53) (by decide +kernel), rfl⟩
theorem mw_54 : Cond.selects RX3 yX3_readOff yX3_readOff ∈ gT := List.mem_filter.mpr ⟨List.mem_of_getElem? (i := 54) (by decide +kernel), rfl⟩
theorem mw_55 : Cond.selects RX3 yX3_endOne yX3_endOne ∈ gT := List.mem_filter.mpr ⟨List.mem_of_getElem? (i := 55) (by decide +kernel), rfl⟩
theorem mw_56 : Cond.selects RX5 yX5_takeBack yX5_takeBack ∈ gT := List.mem_filter.mpr ⟨List.mem_of_getElem? (i := 56) (by decide +kernel), rfl⟩
theorem mw_57 : Cond.selects RX6 yX6_howMany yX6_howMany ∈ gT := List.mem_filter.mpr ⟨List.mem_of_getElem? (i := 57) (by decide +kernel), rfl⟩
theorem mw_58 : Cond.selects RX4 yX4_addCornersTo yX4_addCornersTo ∈ gT := List.mem_filter.mpr ⟨List.mem_of_getElem? (i := 58) (by decide +kernel), rfl⟩
theorem mw_59 : Cond.selects RX7 yX7_refuses yX7_refuses ∈ gT := List.mem_filter.mpr ⟨List.mem_of_getElem? (i := 59) (by decide +kernel), rfl⟩
theorem mw_60 : Cond.selects RX7 yX7_aside yX7_aside ∈ gT := List.mem_filter.mpr ⟨List.mem_of_getElem? (i := 60) (by decide +kernel), rfl⟩
theorem mw_61 : Cond.selects RX7 yX7_keeps yX7_keeps ∈ gT := List.mem_filter.mpr ⟨List.mem_of_getElem? (i := 61) (by decide +kernel), rfl⟩
theorem mw_62 : Cond.selects RX7 yX7_comes yX7_comes ∈ gT := List.mem_filter.mpr ⟨List.mem_of_getElem? (i := 62) (by decide +kernel), rfl⟩
theorem mw_63 : Cond.selects RX7 yX7_laysFamily yX7_laysFamily ∈ gT := List.mem_filter.mpr ⟨List.mem_of_getElem? (i := 63) (by decide +kernel), rfl⟩
theorem mw_64 : Cond.selects RX7 yX7_turns yX7_turns ∈ gT := List.mem_filter.mpr ⟨List.mem_of_getElem? (i := 64) (by decide +kernel), rfl⟩
theorem mw_65 : Cond.selects RX7 yX7_familyComes yX7_familyComes ∈ gT := List.mem_filter.mpr ⟨List.mem_of_getElem? (i := 65) (by decide +kernel), rfl⟩
theorem mw_66 : Cond.selects RX7 yX7_isPlane yX7_isPlane ∈ gT := List.mem_filter.mpr ⟨List.mem_of_getElem? (i := 66) (by decide +kernel), rfl⟩
theorem mw_67 : Cond.selects RX7 yX7_get yX7_get ∈ gT := List.mem_filter.mpr ⟨List.mem_of_getElem? (i := 67) (by decide +kernel), rfl⟩
theorem mw_68 : Cond.selects RX7 yX7_goes yX7_goes ∈ gT := List.mem_filter.mpr ⟨List.mem_of_getElem? (i := 68) (by decide +kernel), rfl⟩
theorem mw_69 : Cond.selects RX7 yX7_lays yX7_lays ∈ gT := List.mem_filter.mpr ⟨List.mem_of_getElem? (i := 69) (by decide +kernel), rfl⟩
theorem mw_70 : Cond.selects RX7 yX7_determinant yX7_determinant ∈ gT := List.mem_filter.mpr ⟨List.mem_of_getElem? (i := 70) (by decide +kernel), rfl⟩
theorem mw_71 : Cond.selects RX7 yX7_meeting yX7_meeting ∈ gT := List.mem_filter.mpr ⟨List.mem_of_getElem? (i := 71) (by decide +kernel), rfl⟩
theorem mw_72 : Cond.selects RX7 yX7_far yX7_far ∈ gT := List.mem_filter.mpr ⟨List.mem_of_getElem? (i := 72) (by decide +kernel), rfl⟩
theorem mw_73 : Cond.selects RX7 yX7_isCorner yX7_isCorner ∈ gT := List.mem_filter.mpr ⟨List.mem_of_getElem? (i := 73) (by decide +kernel), rfl⟩
theorem mw_74 : Cond.selects RX7 yX7_isAhead yX7_isAhead ∈ gT := List.mem_filter.mpr ⟨List.mem_of_getElem? (i := 74) (by decide +kernel), rfl⟩
theorem mw_75 : Cond.selects RX7 yX7_cornersOn yX7_cornersOn ∈ gT := List.mem_filter.mpr ⟨List.mem_of_getElem? (i := 75) (by decide +kernel), rfl⟩
theorem mw_76 : Cond.selects RX7 yX7_isOn yX7_isOn ∈ gT := List.mem_filter.mpr ⟨List.mem_of_getElem? (i := 76) (by decide +kernel), rfl⟩
theorem mw_77 : Cond.selects RX7 yX7_isSame yX7_isSame ∈ gT := List.mem_filter.mpr ⟨List.mem_of_getElem? (i := 77) (by decide +kernel), rfl⟩
theorem mw_78 : Cond.selects RX7 yX7_bad yX7_bad ∈ gT := List.mem_filter.mpr ⟨List.mem_of_getElem? (i := 78) (by decide +kernel), rfl⟩
theorem mw_79 : Cond.selects RX7 yX7_edgesOf yX7_edgesOf ∈ gT := List.mem_filter.mpr ⟨List.mem_of_getElem? (i := 79) (by decide +kernel), rfl⟩
theorem mw_80 : Cond.selects RX7 yX7_isEdge yX7_isEdge ∈ gT := List.mem_filter.mpr ⟨List.mem_of_getElem? (i := 80) (by decide +kernel), rfl⟩
theorem mw_81 : Cond.selects RX7 yX7_cornersOnBoth yX7_cornersOnBoth ∈ gT := List.mem_filter.mpr ⟨List.mem_of_getElem? (i := 81) (by decide +kernel), rfl⟩
theorem mw_82 : Cond.selects RX7 yX7_showing yX7_showing ∈ gT := List.mem_filter.mpr ⟨List.mem_of_getElem? (i := 82) (by decide +kernel), rfl⟩
theorem mw_83 : Cond.selects RX7 yX7_edges yX7_edges ∈ gT := List.mem_filter.mpr ⟨List.mem_of_getElem? (i := 83) (by decide +kernel), rfl⟩
theorem mw_84 : Cond.selects RX7 yX7_mostOn yX7_mostOn ∈ gT := List.mem_filter.mpr ⟨List.mem_of_getElem? (i := 84) (by decide +kernel), rfl⟩
theorem mw_85 : Cond.selects RX7 yX7_mostAt yX7_mostAt ∈ gT := List.mem_filter.mpr ⟨List.mem_of_getElem? (i := 85) (by decide +kernel), rfl⟩
theorem mw_86 : Cond.selects RX7 yX7_fraction yX7_fraction ∈ gT := List.mem_filter.mpr ⟨List.mem_of_getElem? (i := 86) (by decide +kernel), rfl⟩
theorem mw_87 : Cond.selects RX7 yX7_farthest yX7_farthest ∈ gT := List.mem_filter.mpr ⟨List.mem_of_getElem? (i := 87) (by decide +kernel), rfl⟩
theorem mw_88 : Cond.selects RX7 yX7_farOf yX7_farOf ∈ gT := List.mem_filter.mpr ⟨List.mem_of_getElem? (i := 88) (by decide +kernel), rfl⟩
theorem mw_89 : Cond.selects RX7 yX7_isStaying yX7_isStaying ∈ gT := List.mem_filter.mpr ⟨List.mem_of_getElem? (i := 89) (by decide +kernel), rfl⟩
theorem mw_90 : Cond.selects RX7 yX7_restores yX7_restores ∈ gT := List.mem_filter.mpr ⟨List.mem_of_getElem? (i := 90) (by decide +kernel), rfl⟩
theorem mw_91 : Cond.selects RX7 yX7_skips yX7_skips ∈ gT := List.mem_filter.mpr ⟨List.mem_of_getElem? (i := 91) (by decide +kernel), rfl⟩
theorem mw_92 : Cond.selects RX7 yX7_byteAt yX7_byteAt ∈ gT := List.mem_filter.mpr ⟨List.mem_of_getElem? (i := 92) (by decide +kernel), rfl⟩
theorem mw_93 : Cond.selects RX7 yX7_sentence yX7_sentence ∈ gT := List.mem_filter.mpr ⟨List.mem_of_getElem? (i := 93) (by decide +kernel), rfl⟩
theorem mw_94 : Cond.selects RX7 yX7_isFamily yX7_isFamily ∈ gT := List.mem_filter.mpr ⟨List.mem_of_getElem? (i := 94) (by decide +kernel), rfl⟩
theorem mw_95 : Cond.selects RX7 yX7_readsTurns yX7_readsTurns ∈ gT := List.mem_filter.mpr ⟨List.mem_of_getElem? (i := 95) (by decide +kernel), rfl⟩
theorem mw_96 : Cond.selects RX7 yX7_readsSign yX7_readsSign ∈ gT := List.mem_filter.mpr ⟨List.mem_of_getElem? (i := 96) (by decide +kernel), rfl⟩
theorem mw_97 : Cond.selects RX7 yX7_readsOff yX7_readsOff ∈ gT := List.mem_filter.mpr ⟨List.mem_of_getElem? (i := 97) (by decide +kernel), rfl⟩
theorem mw_98 : Cond.selects RX7 yX7_toldOf yX7_toldOf ∈ gT := List.mem_filter.mpr ⟨List.mem_of_getElem? (i := 98) (by decide +kernel), rfl⟩
theorem mw_99 : Cond.initialized RL ∈ gT := List.mem_filter.mpr ⟨List.mem_of_getElem? (i := 99) (by decide +kernel), rfl⟩
theorem mw_100 : Cond.initialized RX6 ∈ gT := List.mem_filter.mpr ⟨List.mem_of_getElem? (i := 100) (by decide +kernel), rfl⟩
theorem mw_101 : Cond.initialized RX2 ∈ gT := List.mem_filter.mpr ⟨List.mem_of_getElem? (i := 101) (by decide +kernel), rfl⟩
theorem mw_102 : Cond.initialized RX5 ∈ gT := List.mem_filter.mpr ⟨List.mem_of_getElem? (i := 102) (by decide +kernel), rfl⟩
theorem mw_103 : Cond.initialized RX4 ∈ gT := List.mem_filter.mpr ⟨List.mem_of_getElem? (i := 103) (by decide +kernel), rfl⟩
theorem mw_104 : Cond.initialized RX1 ∈ gT := List.mem_filter.mpr ⟨List.mem_of_getElem? (i := 104) (by decide +kernel), rfl⟩
theorem mw_105 : Cond.initialized RX0 ∈ gT := List.mem_filter.mpr ⟨List.mem_of_getElem? (i := 105) (by decide +kernel), rfl⟩
theorem mw_106 : Cond.initialized RX3 ∈ gT := List.mem_filter.mpr ⟨List.mem_of_getElem? (i := 106) (by decide +kernel), rfl⟩
theorem mw_107 : Cond.initialized RX7 ∈ gT := List.mem_filter.mpr ⟨List.mem_of_getElem? (i := 107) (by decide +kernel), rfl⟩
theorem mw_108 : Cond.initialized RJ10 ∈ gT := List.mem_filter.mpr ⟨List.mem_of_getElem? (i := 108) (by decide +kernel), rfl⟩
theorem mw_109 : Cond.initialized RJ9 ∈ gT := List.mem_filter.mpr ⟨List.mem_of_getElem? (i := 109) (by decide +kernel), rfl⟩
theorem mw_110 : Cond.initialized RJ7 ∈ gT := List.mem_filter.mpr ⟨List.mem_of_getElem? (i := 110) (by decide +kernel), rfl⟩
theorem mw_111 : Cond.initialized RJ6 ∈ gT := List.mem_filter.mpr ⟨List.mem_of_getElem? (i := 111) (by decide +kernel), rfl⟩
theorem mw_114 : Cond.methodLink RL 9 yX6_init ∈ gT := List.mem_filter.mpr ⟨List.mem_of_getElem? (i := 114) (by decide +kernel), rfl⟩
theorem mw_115 : Cond.instanceMethod yX6_init ∈ gT := List.mem_filter.mpr ⟨List.mem_of_getElem? (i := 115) (by decide +kernel), rfl⟩
theorem mw_116 : Cond.code yX6_init cX6_init 1 none ∈ gT := List.mem_filter.mpr ⟨List.mem_of_getElem? (i := 116) (by decide +kernel), rfl⟩
theorem mw_117 : Cond.methodLink RX6 3 objectInit ∈ gT := List.mem_filter.mpr ⟨List.mem_of_getElem? (i := 117) (by decide +kernel), rfl⟩
theorem mw_118 : Cond.instanceMethod objectInit ∈ gT := List.mem_filter.mpr ⟨List.mem_of_getElem? (i := 118) (by decide +kernel), rfl⟩
theorem mw_122 : Cond.methodLinkNest RX6 11 yX2_init RX6 ∈ lw_tbl := List.mem_of_getElem? (i := 122) (by decide +kernel)
theorem mw_123 : Cond.instanceMethod yX2_init ∈ gT := List.mem_filter.mpr ⟨List.mem_of_getElem? (i := 123) (by decide +kernel), rfl⟩
theorem mw_124 : Cond.code yX2_init cX2_init 1 none ∈ gT := List.mem_filter.mpr ⟨List.mem_of_getElem? (i := 124) (by decide +kernel), rfl⟩
theorem mw_125 : Cond.methodLink RX2 3 objectInit ∈ gT := List.mem_filter.mpr ⟨List.mem_of_getElem? (i := 125) (by decide +kernel), rfl⟩
theorem mw_126 : Cond.fieldLink RX2 9 (TX2 0).1 (TX2 0).2.1 (TX2 0).2.2.1 ∈ gT := List.mem_filter.mpr ⟨List.mem_of_getElem? (i := 126) (by decide +kernel), rfl⟩
theorem mw_127 : Cond.fieldLinkNest RX1 7 (TX2 0).1 (TX2 0).2.1 (TX2 0).2.2.1 RX6 ∈ lw_tbl := List.mem_of_getElem? (i := 127) (by decide +kernel)
theorem mw_128 : Cond.fieldLinkNest RX4 124 (TX2 0).1 (TX2 0).2.1 (TX2 0).2.2.1 RX6 ∈ lw_tbl := List.mem_of_getElem? (i := 128) (by decide +kernel)
theorem mw_129 : Cond.fieldLinkNest RX6 281 (TX2 0).1 (TX2 0).2.1 (TX2 0).2.2.1 RX6 ∈ lw_tbl := List.mem_of_getElem? (i := 129) (by decide +kernel)
theorem mw_130 : Cond.fieldLink RX2 15 (TX2 1).1 (TX2 1).2.1 (TX2 1).2.2.1 ∈ gT := List.mem_filter.mpr ⟨List.mem_of_getElem? (i := 130) (by decide +kernel), rfl⟩
theorem mw_131 : Cond.fieldLinkNest RX1 13 (TX2 1).1 (TX2 1).2.1 (TX2 1).2.2.1 RX6 ∈ lw_tbl := List.mem_of_getElem? (i := 131) (by decide +kernel)
theorem mw_132 : Cond.fieldLinkNest RX4 127 (TX2 1).1 (TX2 1).2.1 (TX2 1).2.2.1 RX6 ∈ lw_tbl := List.mem_of_getElem? (i := 132) (by decide +kernel)
theorem mw_133 : Cond.fieldLinkNest RX6 284 (TX2 1).1 (TX2 1).2.1 (TX2 1).2.2.1 RX6 ∈ lw_tbl := List.mem_of_getElem? (i := 133) (by decide +kernel)
theorem mw_134 : Cond.fieldLink RX2 18 (TX2 2).1 (TX2 2).2.1 (TX2 2).2.2.1 ∈ gT := List.mem_filter.mpr ⟨List.mem_of_getElem? (i := 134) (by decide +kernel), rfl⟩
theorem mw_135 : Cond.fieldLinkNest RX1 16 (TX2 2).1 (TX2 2).2.1 (TX2 2).2.2.1 RX6 ∈ lw_tbl := List.mem_of_getElem? (i := 135) (by decide +kernel)
theorem mw_136 : Cond.fieldLinkNest RX4 130 (TX2 2).1 (TX2 2).2.1 (TX2 2).2.2.1 RX6 ∈ lw_tbl := List.mem_of_getElem? (i := 136) (by decide +kernel)
theorem mw_137 : Cond.fieldLinkNest RX6 287 (TX2 2).1 (TX2 2).2.1 (TX2 2).2.2.1 RX6 ∈ lw_tbl := List.mem_of_getElem? (i := 137) (by decide +kernel)
theorem mw_138 : Cond.fieldLink RX2 21 (TX2 3).1 (TX2 3).2.1 (TX2 3).2.2.1 ∈ gT := List.mem_filter.mpr ⟨List.mem_of_getElem? (i := 138) (by decide +kernel), rfl⟩
theorem mw_139 : Cond.fieldLinkNest RX1 19 (TX2 3).1 (TX2 3).2.1 (TX2 3).2.2.1 RX6 ∈ lw_tbl := List.mem_of_getElem? (i := 139) (by decide +kernel)
theorem mw_140 : Cond.fieldLinkNest RX6 97 (TX2 3).1 (TX2 3).2.1 (TX2 3).2.2.1 RX6 ∈ lw_tbl := List.mem_of_getElem? (i := 140) (by decide +kernel)
theorem mw_141 : Cond.fieldLinkNest RX4 136 (TX2 3).1 (TX2 3).2.1 (TX2 3).2.2.1 RX6 ∈ lw_tbl := List.mem_of_getElem? (i := 141) (by decide +kernel)
theorem mw_142 : Cond.fieldLink RX2 24 (TX2 4).1 (TX2 4).2.1 (TX2 4).2.2.1 ∈ gT := List.mem_filter.mpr ⟨List.mem_of_getElem? (i := 142) (by decide +kernel), rfl⟩
theorem mw_143 : Cond.fieldLinkNest RX4 41 (TX2 4).1 (TX2 4).2.1 (TX2 4).2.2.1 RX6 ∈ lw_tbl := List.mem_of_getElem? (i := 143) (by decide +kernel)
theorem mw_144 : Cond.fieldLinkNest RX6 69 (TX2 4).1 (TX2 4).2.1 (TX2 4).2.2.1 RX6 ∈ lw_tbl := List.mem_of_getElem? (i := 144) (by decide +kernel)
theorem mw_145 : Cond.fieldLinkNest RX1 58 (TX2 4).1 (TX2 4).2.1 (TX2 4).2.2.1 RX6 ∈ lw_tbl := List.mem_of_getElem? (i := 145) (by decide +kernel)
theorem mw_146 : Cond.fieldLinkNest RX3 81 (TX2 4).1 (TX2 4).2.1 (TX2 4).2.2.1 RX6 ∈ lw_tbl := List.mem_of_getElem? (i := 146) (by decide +kernel)
theorem mw_161 : Cond.methodLinkNest RX6 21 yX5_init RX6 ∈ lw_tbl := List.mem_of_getElem? (i := 161) (by decide +kernel)
theorem mw_162 : Cond.instanceMethod yX5_init ∈ gT := List.mem_filter.mpr ⟨List.mem_of_getElem? (i := 162) (by decide +kernel), rfl⟩
theorem mw_163 : Cond.code yX5_init cX5_init 2 none ∈ gT := List.mem_filter.mpr ⟨List.mem_of_getElem? (i := 163) (by decide +kernel), rfl⟩
theorem mw_164 : Cond.methodLink RX5 3 objectInit ∈ gT := List.mem_filter.mpr ⟨List.mem_of_getElem? (i := 164) (by decide +kernel), rfl⟩
theorem mw_167 : Cond.methodLinkNest RX5 17 yX2_init RX6 ∈ lw_tbl := List.mem_of_getElem? (i := 167) (by decide +kernel)
theorem mw_168 : Cond.fieldLink RX5 11 (TX5 0).1 (TX5 0).2.1 (TX5 0).2.2.1 ∈ gT := List.mem_filter.mpr ⟨List.mem_of_getElem? (i := 168) (by decide +kernel), rfl⟩
theorem mw_169 : Cond.fieldLink RX5 18 (TX5 1).1 (TX5 1).2.1 (TX5 1).2.2.1 ∈ gT := List.mem_filter.mpr ⟨List.mem_of_getElem? (i := 169) (by decide +kernel), rfl⟩
theorem mw_170 : Cond.fieldLink RX5 26 (TX5 2).1 (TX5 2).2.1 (TX5 2).2.2.1 ∈ gT := List.mem_filter.mpr ⟨List.mem_of_getElem? (i := 170) (by decide +kernel), rfl⟩
theorem mw_171 : Cond.fieldLinkNest RX6 228 (TX5 2).1 (TX5 2).2.1 (TX5 2).2.2.1 RX6 ∈ lw_tbl := List.mem_of_getElem? (i := 171) (by decide +kernel)
theorem mw_181 : Cond.methodLinkNest RX6 28 yX4_init RX6 ∈ lw_tbl := List.mem_of_getElem? (i := 181) (by decide +kernel)
theorem mw_182 : Cond.instanceMethod yX4_init ∈ gT := List.mem_filter.mpr ⟨List.mem_of_getElem? (i := 182) (by decide +kernel), rfl⟩
theorem mw_183 : Cond.code yX4_init cX4_init 1 none ∈ gT := List.mem_filter.mpr ⟨List.mem_of_getElem? (i := 183) (by decide +kernel), rfl⟩
theorem mw_184 : Cond.methodLink RX4 3 objectInit ∈ gT := List.mem_filter.mpr ⟨List.mem_of_getElem? (i := 184) (by decide +kernel), rfl⟩
theorem mw_187 : Cond.methodLinkNest RX4 32 yX1_init RX6 ∈ lw_tbl := List.mem_of_getElem? (i := 187) (by decide +kernel)
theorem mw_188 : Cond.instanceMethod yX1_init ∈ gT := List.mem_filter.mpr ⟨List.mem_of_getElem? (i := 188) (by decide +kernel), rfl⟩
theorem mw_189 : Cond.code yX1_init cX1_init 1 none ∈ gT := List.mem_filter.mpr ⟨List.mem_of_getElem? (i := 189) (by decide +kernel), rfl⟩
theorem mw_190 : Cond.methodLink RX1 1 objectInit ∈ gT := List.mem_filter.mpr ⟨List.mem_of_getElem? (i := 190) (by decide +kernel), rfl⟩
theorem mw_191 : Cond.fieldLink RX1 22 (TX1 0).1 (TX1 0).2.1 (TX1 0).2.2.1 ∈ gT := List.mem_filter.mpr ⟨List.mem_of_getElem? (i := 191) (by decide +kernel), rfl⟩
theorem mw_192 : Cond.fieldLinkNest RX4 73 (TX1 0).1 (TX1 0).2.1 (TX1 0).2.2.1 RX6 ∈ lw_tbl := List.mem_of_getElem? (i := 192) (by decide +kernel)
theorem mw_193 : Cond.fieldLink RX1 28 (TX1 1).1 (TX1 1).2.1 (TX1 1).2.2.1 ∈ gT := List.mem_filter.mpr ⟨List.mem_of_getElem? (i := 193) (by decide +kernel), rfl⟩
theorem mw_194 : Cond.fieldLinkNest RX4 79 (TX1 1).1 (TX1 1).2.1 (TX1 1).2.2.1 RX6 ∈ lw_tbl := List.mem_of_getElem? (i := 194) (by decide +kernel)
theorem mw_195 : Cond.fieldLink RX1 31 (TX1 2).1 (TX1 2).2.1 (TX1 2).2.2.1 ∈ gT := List.mem_filter.mpr ⟨List.mem_of_getElem? (i := 195) (by decide +kernel), rfl⟩
theorem mw_196 : Cond.fieldLinkNest RX4 85 (TX1 2).1 (TX1 2).2.1 (TX1 2).2.2.1 RX6 ∈ lw_tbl := List.mem_of_getElem? (i := 196) (by decide +kernel)
theorem mw_197 : Cond.fieldLink RX1 37 (TX1 3).1 (TX1 3).2.1 (TX1 3).2.2.1 ∈ gT := List.mem_filter.mpr ⟨List.mem_of_getElem? (i := 197) (by decide +kernel), rfl⟩
theorem mw_198 : Cond.fieldLinkNest RX4 70 (TX1 3).1 (TX1 3).2.1 (TX1 3).2.2.1 RX6 ∈ lw_tbl := List.mem_of_getElem? (i := 198) (by decide +kernel)
theorem mw_199 : Cond.fieldLink RX1 40 (TX1 4).1 (TX1 4).2.1 (TX1 4).2.2.1 ∈ gT := List.mem_filter.mpr ⟨List.mem_of_getElem? (i := 199) (by decide +kernel), rfl⟩
theorem mw_200 : Cond.fieldLinkNest RX4 76 (TX1 4).1 (TX1 4).2.1 (TX1 4).2.2.1 RX6 ∈ lw_tbl := List.mem_of_getElem? (i := 200) (by decide +kernel)
theorem mw_201 : Cond.fieldLink RX1 43 (TX1 5).1 (TX1 5).2.1 (TX1 5).2.2.1 ∈ gT := List.mem_filter.mpr ⟨List.mem_of_getElem? (i := 201) (by decide +kernel), rfl⟩
theorem mw_202 : Cond.fieldLinkNest RX4 82 (TX1 5).1 (TX1 5).2.1 (TX1 5).2.2.1 RX6 ∈ lw_tbl := List.mem_of_getElem? (i := 202) (by decide +kernel)
theorem mw_203 : Cond.fieldLink RX1 34 (TX1 6).1 (TX1 6).2.1 (TX1 6).2.2.1 ∈ gT := List.mem_filter.mpr ⟨List.mem_of_getElem? (i := 203) (by decide +kernel), rfl⟩
theorem mw_204 : Cond.fieldLinkNest RX4 88 (TX1 6).1 (TX1 6).2.1 (TX1 6).2.2.1 RX6 ∈ lw_tbl := List.mem_of_getElem? (i := 204) (by decide +kernel)
theorem mw_205 : Cond.fieldLinkNest RX4 54 (TX1 7).1 (TX1 7).2.1 (TX1 7).2.2.1 RX6 ∈ lw_tbl := List.mem_of_getElem? (i := 205) (by decide +kernel)
theorem mw_206 : Cond.fieldLink RX1 46 (TX1 7).1 (TX1 7).2.1 (TX1 7).2.2.1 ∈ gT := List.mem_filter.mpr ⟨List.mem_of_getElem? (i := 206) (by decide +kernel), rfl⟩
theorem mw_207 : Cond.fieldLinkNest RX4 57 (TX1 8).1 (TX1 8).2.1 (TX1 8).2.2.1 RX6 ∈ lw_tbl := List.mem_of_getElem? (i := 207) (by decide +kernel)
theorem mw_208 : Cond.fieldLink RX1 49 (TX1 8).1 (TX1 8).2.1 (TX1 8).2.2.1 ∈ gT := List.mem_filter.mpr ⟨List.mem_of_getElem? (i := 208) (by decide +kernel), rfl⟩
theorem mw_209 : Cond.fieldLinkNest RX4 64 (TX1 9).1 (TX1 9).2.1 (TX1 9).2.2.1 RX6 ∈ lw_tbl := List.mem_of_getElem? (i := 209) (by decide +kernel)
theorem mw_210 : Cond.fieldLink RX1 52 (TX1 9).1 (TX1 9).2.1 (TX1 9).2.2.1 ∈ gT := List.mem_filter.mpr ⟨List.mem_of_getElem? (i := 210) (by decide +kernel), rfl⟩
theorem mw_211 : Cond.fieldLinkNest RX4 67 (TX1 10).1 (TX1 10).2.1 (TX1 10).2.2.1 RX6 ∈ lw_tbl := List.mem_of_getElem? (i := 211) (by decide +kernel)
theorem mw_212 : Cond.fieldLink RX1 55 (TX1 10).1 (TX1 10).2.1 (TX1 10).2.2.1 ∈ gT := List.mem_filter.mpr ⟨List.mem_of_getElem? (i := 212) (by decide +kernel), rfl⟩
theorem mw_236 : Cond.fieldLink RX4 9 (TX4 0).1 (TX4 0).2.1 (TX4 0).2.2.1 ∈ gT := List.mem_filter.mpr ⟨List.mem_of_getElem? (i := 236) (by decide +kernel), rfl⟩
theorem mw_237 : Cond.fieldLink RX4 15 (TX4 1).1 (TX4 1).2.1 (TX4 1).2.2.1 ∈ gT := List.mem_filter.mpr ⟨List.mem_of_getElem? (i := 237) (by decide +kernel), rfl⟩
theorem mw_238 : Cond.fieldLink RX4 18 (TX4 2).1 (TX4 2).2.1 (TX4 2).2.2.1 ∈ gT := List.mem_filter.mpr ⟨List.mem_of_getElem? (i := 238) (by decide +kernel), rfl⟩
theorem mw_239 : Cond.fieldLink RX4 21 (TX4 3).1 (TX4 3).2.1 (TX4 3).2.2.1 ∈ gT := List.mem_filter.mpr ⟨List.mem_of_getElem? (i := 239) (by decide +kernel), rfl⟩
theorem mw_240 : Cond.fieldLinkNest RX6 148 (TX4 3).1 (TX4 3).2.1 (TX4 3).2.2.1 RX6 ∈ lw_tbl := List.mem_of_getElem? (i := 240) (by decide +kernel)
theorem mw_241 : Cond.fieldLink RX4 24 (TX4 4).1 (TX4 4).2.1 (TX4 4).2.2.1 ∈ gT := List.mem_filter.mpr ⟨List.mem_of_getElem? (i := 241) (by decide +kernel), rfl⟩
theorem mw_242 : Cond.fieldLinkNest RX6 155 (TX4 4).1 (TX4 4).2.1 (TX4 4).2.2.1 RX6 ∈ lw_tbl := List.mem_of_getElem? (i := 242) (by decide +kernel)
theorem mw_243 : Cond.fieldLink RX4 27 (TX4 5).1 (TX4 5).2.1 (TX4 5).2.2.1 ∈ gT := List.mem_filter.mpr ⟨List.mem_of_getElem? (i := 243) (by decide +kernel), rfl⟩
theorem mw_244 : Cond.fieldLinkNest RX6 290 (TX4 5).1 (TX4 5).2.1 (TX4 5).2.2.1 RX6 ∈ lw_tbl := List.mem_of_getElem? (i := 244) (by decide +kernel)
theorem mw_245 : Cond.fieldLink RX4 33 (TX4 6).1 (TX4 6).2.1 (TX4 6).2.2.1 ∈ gT := List.mem_filter.mpr ⟨List.mem_of_getElem? (i := 245) (by decide +kernel), rfl⟩
theorem mw_246 : Cond.fieldLink RX4 37 (TX4 7).1 (TX4 7).2.1 (TX4 7).2.2.1 ∈ gT := List.mem_filter.mpr ⟨List.mem_of_getElem? (i := 246) (by decide +kernel), rfl⟩
theorem mw_247 : Cond.fieldLinkNest RX6 120 (TX4 7).1 (TX4 7).2.1 (TX4 7).2.2.1 RX6 ∈ lw_tbl := List.mem_of_getElem? (i := 247) (by decide +kernel)
theorem mw_248 : Cond.fieldLink RX4 113 (TX4 8).1 (TX4 8).2.1 (TX4 8).2.2.1 ∈ gT := List.mem_filter.mpr ⟨List.mem_of_getElem? (i := 248) (by decide +kernel), rfl⟩
theorem mw_270 : Cond.methodLinkNest RX6 38 yX0_init RX6 ∈ lw_tbl := List.mem_of_getElem? (i := 270) (by decide +kernel)
theorem mw_271 : Cond.instanceMethod yX0_init ∈ gT := List.mem_filter.mpr ⟨List.mem_of_getElem? (i := 271) (by decide +kernel), rfl⟩
theorem mw_272 : Cond.code yX0_init cX0_init 1 none ∈ gT := List.mem_filter.mpr ⟨List.mem_of_getElem? (i := 272) (by decide +kernel), rfl⟩
theorem mw_273 : Cond.methodLink RX0 3 objectInit ∈ gT := List.mem_filter.mpr ⟨List.mem_of_getElem? (i := 273) (by decide +kernel), rfl⟩
theorem mw_274 : Cond.fieldLink RX0 9 (TX0 0).1 (TX0 0).2.1 (TX0 0).2.2.1 ∈ gT := List.mem_filter.mpr ⟨List.mem_of_getElem? (i := 274) (by decide +kernel), rfl⟩
theorem mw_275 : Cond.fieldLink RX0 15 (TX0 1).1 (TX0 1).2.1 (TX0 1).2.2.1 ∈ gT := List.mem_filter.mpr ⟨List.mem_of_getElem? (i := 275) (by decide +kernel), rfl⟩
theorem mw_276 : Cond.fieldLinkNest RX2 35 (TX0 1).1 (TX0 1).2.1 (TX0 1).2.2.1 RX6 ∈ lw_tbl := List.mem_of_getElem? (i := 276) (by decide +kernel)
theorem mw_277 : Cond.fieldLinkNest RX6 127 (TX0 1).1 (TX0 1).2.1 (TX0 1).2.2.1 RX6 ∈ lw_tbl := List.mem_of_getElem? (i := 277) (by decide +kernel)
theorem mw_278 : Cond.fieldLink RX0 25 (TX0 2).1 (TX0 2).2.1 (TX0 2).2.2.1 ∈ gT := List.mem_filter.mpr ⟨List.mem_of_getElem? (i := 278) (by decide +kernel), rfl⟩
theorem mw_279 : Cond.fieldLinkNest RX6 89 (TX0 2).1 (TX0 2).2.1 (TX0 2).2.2.1 RX6 ∈ lw_tbl := List.mem_of_getElem? (i := 279) (by decide +kernel)
theorem mw_280 : Cond.fieldLinkNest RX2 32 (TX0 2).1 (TX0 2).2.1 (TX0 2).2.2.1 RX6 ∈ lw_tbl := List.mem_of_getElem? (i := 280) (by decide +kernel)
theorem mw_281 : Cond.fieldLinkNest RX3 86 (TX0 2).1 (TX0 2).2.1 (TX0 2).2.2.1 RX6 ∈ lw_tbl := List.mem_of_getElem? (i := 281) (by decide +kernel)
theorem mw_292 : Cond.methodLinkNest RX6 45 yX3_init RX6 ∈ lw_tbl := List.mem_of_getElem? (i := 292) (by decide +kernel)
theorem mw_293 : Cond.instanceMethod yX3_init ∈ gT := List.mem_filter.mpr ⟨List.mem_of_getElem? (i := 293) (by decide +kernel), rfl⟩
theorem mw_294 : Cond.code yX3_init cX3_init 1 none ∈ gT := List.mem_filter.mpr ⟨List.mem_of_getElem? (i := 294) (by decide +kernel), rfl⟩
theorem mw_295 : Cond.methodLink RX3 3 objectInit ∈ gT := List.mem_filter.mpr ⟨List.mem_of_getElem? (i := 295) (by decide +kernel), rfl⟩
theorem mw_296 : Cond.fieldLink RX3 9 (TX3 0).1 (TX3 0).2.1 (TX3 0).2.2.1 ∈ gT := List.mem_filter.mpr ⟨List.mem_of_getElem? (i := 296) (by decide +kernel), rfl⟩
theorem mw_297 : Cond.fieldLinkNest RX6 213 (TX3 0).1 (TX3 0).2.1 (TX3 0).2.2.1 RX6 ∈ lw_tbl := List.mem_of_getElem? (i := 297) (by decide +kernel)
theorem mw_298 : Cond.fieldLink RX3 46 (TX3 1).1 (TX3 1).2.1 (TX3 1).2.2.1 ∈ gT := List.mem_filter.mpr ⟨List.mem_of_getElem? (i := 298) (by decide +kernel), rfl⟩
theorem mw_299 : Cond.fieldLinkNest RX6 210 (TX3 1).1 (TX3 1).2.1 (TX3 1).2.2.1 RX6 ∈ lw_tbl := List.mem_of_getElem? (i := 299) (by decide +kernel)
theorem mw_300 : Cond.fieldLink RX3 15 (TX3 2).1 (TX3 2).2.1 (TX3 2).2.2.1 ∈ gT := List.mem_filter.mpr ⟨List.mem_of_getElem? (i := 300) (by decide +kernel), rfl⟩
theorem mw_301 : Cond.fieldLinkNest RX6 225 (TX3 2).1 (TX3 2).2.1 (TX3 2).2.2.1 RX6 ∈ lw_tbl := List.mem_of_getElem? (i := 301) (by decide +kernel)
theorem mw_302 : Cond.fieldLink RX3 27 (TX3 3).1 (TX3 3).2.1 (TX3 3).2.2.1 ∈ gT := List.mem_filter.mpr ⟨List.mem_of_getElem? (i := 302) (by decide +kernel), rfl⟩
theorem mw_303 : Cond.fieldLink RX3 55 (TX3 4).1 (TX3 4).2.1 (TX3 4).2.2.1 ∈ gT := List.mem_filter.mpr ⟨List.mem_of_getElem? (i := 303) (by decide +kernel), rfl⟩
theorem mw_304 : Cond.fieldLink RX3 58 (TX3 5).1 (TX3 5).2.1 (TX3 5).2.2.1 ∈ gT := List.mem_filter.mpr ⟨List.mem_of_getElem? (i := 304) (by decide +kernel), rfl⟩
theorem mw_305 : Cond.fieldLink RX3 61 (TX3 6).1 (TX3 6).2.1 (TX3 6).2.2.1 ∈ gT := List.mem_filter.mpr ⟨List.mem_of_getElem? (i := 305) (by decide +kernel), rfl⟩
theorem mw_306 : Cond.fieldLink RX3 68 (TX3 7).1 (TX3 7).2.1 (TX3 7).2.2.1 ∈ gT := List.mem_filter.mpr ⟨List.mem_of_getElem? (i := 306) (by decide +kernel), rfl⟩
theorem mw_307 : Cond.fieldLink RX3 52 (TX3 8).1 (TX3 8).2.1 (TX3 8).2.2.1 ∈ gT := List.mem_filter.mpr ⟨List.mem_of_getElem? (i := 307) (by decide +kernel), rfl⟩
theorem mw_327 : Cond.methodLinkNest RX6 50 yX2_becomeBox RX6 ∈ lw_tbl := List.mem_of_getElem? (i := 327) (by decide +kernel)
theorem mw_329 : Cond.instanceMethod yX2_becomeBox ∈ gT := List.mem_filter.mpr ⟨List.mem_of_getElem? (i := 329) (by decide +kernel), rfl⟩
theorem mw_330 : Cond.code yX2_becomeBox cX2_becomeBox 1 none ∈ gT := List.mem_filter.mpr ⟨List.mem_of_getElem? (i := 330) (by decide +kernel), rfl⟩
theorem mw_331 : Cond.methodLink RX2 28 yX2_put ∈ gT := List.mem_filter.mpr ⟨List.mem_of_getElem? (i := 331) (by decide +kernel), rfl⟩
theorem mw_333 : Cond.instanceMethod yX2_put ∈ gT := List.mem_filter.mpr ⟨List.mem_of_getElem? (i := 333) (by decide +kernel), rfl⟩
theorem mw_334 : Cond.code yX2_put cX2_put 5 none ∈ gT := List.mem_filter.mpr ⟨List.mem_of_getElem? (i := 334) (by decide +kernel), rfl⟩
theorem mw_335 : Cond.fieldLink RX6 12 (TX6 0).1 (TX6 0).2.1 (TX6 0).2.2.1 ∈ gT := List.mem_filter.mpr ⟨List.mem_of_getElem? (i := 335) (by decide +kernel), rfl⟩
theorem mw_336 : Cond.fieldLink RX6 16 (TX6 1).1 (TX6 1).2.1 (TX6 1).2.2.1 ∈ gT := List.mem_filter.mpr ⟨List.mem_of_getElem? (i := 336) (by decide +kernel), rfl⟩
theorem mw_337 : Cond.fieldLink RX6 22 (TX6 2).1 (TX6 2).2.1 (TX6 2).2.2.1 ∈ gT := List.mem_filter.mpr ⟨List.mem_of_getElem? (i := 337) (by decide +kernel), rfl⟩
theorem mw_338 : Cond.fieldLink RX6 29 (TX6 3).1 (TX6 3).2.1 (TX6 3).2.2.1 ∈ gT := List.mem_filter.mpr ⟨List.mem_of_getElem? (i := 338) (by decide +kernel), rfl⟩
theorem mw_339 : Cond.fieldLink RX6 33 (TX6 4).1 (TX6 4).2.1 (TX6 4).2.2.1 ∈ gT := List.mem_filter.mpr ⟨List.mem_of_getElem? (i := 339) (by decide +kernel), rfl⟩
theorem mw_340 : Cond.fieldLink RX6 39 (TX6 5).1 (TX6 5).2.1 (TX6 5).2.2.1 ∈ gT := List.mem_filter.mpr ⟨List.mem_of_getElem? (i := 340) (by decide +kernel), rfl⟩
theorem mw_341 : Cond.fieldLink RX6 46 (TX6 6).1 (TX6 6).2.1 (TX6 6).2.2.1 ∈ gT := List.mem_filter.mpr ⟨List.mem_of_getElem? (i := 341) (by decide +kernel), rfl⟩
theorem mw_342 : Cond.fieldLink RX6 261 (TX6 7).1 (TX6 7).2.1 (TX6 7).2.2.1 ∈ gT := List.mem_filter.mpr ⟨List.mem_of_getElem? (i := 342) (by decide +kernel), rfl⟩
theorem mw_343 : Cond.fieldLink RX6 197 (TX6 8).1 (TX6 8).2.1 (TX6 8).2.2.1 ∈ gT := List.mem_filter.mpr ⟨List.mem_of_getElem? (i := 343) (by decide +kernel), rfl⟩
theorem mw_344 : Cond.fieldLink RX6 204 (TX6 9).1 (TX6 9).2.1 (TX6 9).2.2.1 ∈ gT := List.mem_filter.mpr ⟨List.mem_of_getElem? (i := 344) (by decide +kernel), rfl⟩
theorem mw_345 : Cond.fieldLink RX6 207 (TX6 10).1 (TX6 10).2.1 (TX6 10).2.2.1 ∈ gT := List.mem_filter.mpr ⟨List.mem_of_getElem? (i := 345) (by decide +kernel), rfl⟩
theorem mw_346 : Cond.fieldLink RX6 165 (TX6 11).1 (TX6 11).2.1 (TX6 11).2.2.1 ∈ gT := List.mem_filter.mpr ⟨List.mem_of_getElem? (i := 346) (by decide +kernel), rfl⟩
theorem mw_347 : Cond.fieldLink RX6 53 (TX6 12).1 (TX6 12).2.1 (TX6 12).2.2.1 ∈ gT := List.mem_filter.mpr ⟨List.mem_of_getElem? (i := 347) (by decide +kernel), rfl⟩
theorem mw_348 : Cond.fieldLink RX6 249 (TX6 13).1 (TX6 13).2.1 (TX6 13).2.2.1 ∈ gT := List.mem_filter.mpr ⟨List.mem_of_getElem? (i := 348) (by decide +kernel), rfl⟩
theorem mw_349 : Cond.fieldLink RX6 252 (TX6 14).1 (TX6 14).2.1 (TX6 14).2.2.1 ∈ gT := List.mem_filter.mpr ⟨List.mem_of_getElem? (i := 349) (by decide +kernel), rfl⟩
theorem mw_350 : Cond.fieldLink RX6 255 (TX6 15).1 (TX6 15).2.1 (TX6 15).2.2.1 ∈ gT := List.mem_filter.mpr ⟨List.mem_of_getElem? (i := 350) (by decide +kernel), rfl⟩
theorem mw_384 : Cond.methodLink RL 13 yX6_plane ∈ gT := List.mem_filter.mpr ⟨List.mem_of_getElem? (i := 384) (by decide +kernel), rfl⟩
theorem mw_385 : Cond.instanceMethod yX6_plane ∈ gT := List.mem_filter.mpr ⟨List.mem_of_getElem? (i := 385) (by decide +kernel), rfl⟩
theorem mw_386 : Cond.selects RX6 yX6_plane yX6_plane ∈ gT := List.mem_filter.mpr ⟨List.mem_of_getElem? (i := 386) (by decide +kernel), rfl⟩
theorem mw_387 : Cond.code yX6_plane cX6_plane 5 (some .int) ∈ gT := List.mem_filter.mpr ⟨List.mem_of_getElem? (i := 387) (by decide +kernel), rfl⟩
theorem mw_388 : Cond.methodLink RX6 57 yX6_isSign ∈ gT := List.mem_filter.mpr ⟨List.mem_of_getElem? (i := 388) (by decide +kernel), rfl⟩
theorem mw_389 : Cond.static yX6_isSign ∈ gT := List.mem_filter.mpr ⟨List.mem_of_getElem? (i := 389) (by decide +kernel), rfl⟩
theorem mw_390 : Cond.code yX6_isSign cX6_isSign 3 (some .boolean) ∈ gT := List.mem_filter.mpr ⟨List.mem_of_getElem? (i := 390) (by decide +kernel), rfl⟩
theorem mw_391 : Cond.methodLink RX6 246 yX6_isSignNumber ∈ gT := List.mem_filter.mpr ⟨List.mem_of_getElem? (i := 391) (by decide +kernel), rfl⟩
theorem mw_392 : Cond.static yX6_isSignNumber ∈ gT := List.mem_filter.mpr ⟨List.mem_of_getElem? (i := 392) (by decide +kernel), rfl⟩
theorem mw_393 : Cond.code yX6_isSignNumber cX6_isSignNumber 1 (some .boolean) ∈ gT := List.mem_filter.mpr ⟨List.mem_of_getElem? (i := 393) (by decide +kernel), rfl⟩
theorem mw_394 : Cond.methodLink RX6 61 yX6_isOff ∈ gT := List.mem_filter.mpr ⟨List.mem_of_getElem? (i := 394) (by decide +kernel), rfl⟩
theorem mw_395 : Cond.static yX6_isOff ∈ gT := List.mem_filter.mpr ⟨List.mem_of_getElem? (i := 395) (by decide +kernel), rfl⟩
theorem mw_396 : Cond.code yX6_isOff cX6_isOff 1 (some .boolean) ∈ gT := List.mem_filter.mpr ⟨List.mem_of_getElem? (i := 396) (by decide +kernel), rfl⟩
theorem mw_397 : Cond.methodLink RX6 65 yX6_refuseBad ∈ gT := List.mem_filter.mpr ⟨List.mem_of_getElem? (i := 397) (by decide +kernel), rfl⟩
theorem mw_399 : Cond.instanceMethod yX6_refuseBad ∈ gT := List.mem_filter.mpr ⟨List.mem_of_getElem? (i := 399) (by decide +kernel), rfl⟩
theorem mw_400 : Cond.code yX6_refuseBad cX6_refuseBad 2 (some .int) ∈ gT := List.mem_filter.mpr ⟨List.mem_of_getElem? (i := 400) (by decide +kernel), rfl⟩
theorem mw_401 : Cond.methodLink RX6 72 yX6_refuseFull ∈ gT := List.mem_filter.mpr ⟨List.mem_of_getElem? (i := 401) (by decide +kernel), rfl⟩
theorem mw_403 : Cond.instanceMethod yX6_refuseFull ∈ gT := List.mem_filter.mpr ⟨List.mem_of_getElem? (i := 403) (by decide +kernel), rfl⟩
theorem mw_404 : Cond.code yX6_refuseFull cX6_refuseFull 1 (some .int) ∈ gT := List.mem_filter.mpr ⟨List.mem_of_getElem? (i := 404) (by decide +kernel), rfl⟩
theorem mw_405 : Cond.methodLink RX6 76 yX6_leaveState ∈ gT := List.mem_filter.mpr ⟨List.mem_of_getElem? (i := 405) (by decide +kernel), rfl⟩
theorem mw_407 : Cond.instanceMethod yX6_leaveState ∈ gT := List.mem_filter.mpr ⟨List.mem_of_getElem? (i := 407) (by decide +kernel), rfl⟩
theorem mw_408 : Cond.code yX6_leaveState cX6_leaveState 1 none ∈ gT := List.mem_filter.mpr ⟨List.mem_of_getElem? (i := 408) (by decide +kernel), rfl⟩
theorem mw_409 : Cond.methodLinkNest RX6 258 yX5_keep RX6 ∈ lw_tbl := List.mem_of_getElem? (i := 409) (by decide +kernel)
theorem mw_411 : Cond.instanceMethod yX5_keep ∈ gT := List.mem_filter.mpr ⟨List.mem_of_getElem? (i := 411) (by decide +kernel), rfl⟩
theorem mw_412 : Cond.code yX5_keep cX5_keep 3 none ∈ gT := List.mem_filter.mpr ⟨List.mem_of_getElem? (i := 412) (by decide +kernel), rfl⟩
theorem mw_413 : Cond.methodLinkNest RX5 22 yX2_copyFrom RX6 ∈ lw_tbl := List.mem_of_getElem? (i := 413) (by decide +kernel)
theorem mw_415 : Cond.instanceMethod yX2_copyFrom ∈ gT := List.mem_filter.mpr ⟨List.mem_of_getElem? (i := 415) (by decide +kernel), rfl⟩
theorem mw_416 : Cond.code yX2_copyFrom cX2_copyFrom 2 none ∈ gT := List.mem_filter.mpr ⟨List.mem_of_getElem? (i := 416) (by decide +kernel), rfl⟩
theorem mw_417 : Cond.methodLink RX2 38 arraycopyName ∈ gT := List.mem_filter.mpr ⟨List.mem_of_getElem? (i := 417) (by decide +kernel), rfl⟩
theorem mw_418 : Cond.static arraycopyName ∈ gT := List.mem_filter.mpr ⟨List.mem_of_getElem? (i := 418) (by decide +kernel), rfl⟩
theorem mw_419 : Cond.native arraycopyName ∈ gT := List.mem_filter.mpr ⟨List.mem_of_getElem? (i := 419) (by decide +kernel), rfl⟩
theorem mw_420 : Cond.methodLink RX5 29 Lib.Math.min.name ∈ gT := List.mem_filter.mpr ⟨List.mem_of_getElem? (i := 420) (by decide +kernel), rfl⟩
theorem mw_421 : Cond.static Lib.Math.min.name ∈ gT := List.mem_filter.mpr ⟨List.mem_of_getElem? (i := 421) (by decide +kernel), rfl⟩
theorem mw_422 : Cond.code Lib.Math.min.name Lib.Math.min.code 2 (some .int) ∈ gT := List.mem_filter.mpr ⟨List.mem_of_getElem? (i := 422) (by decide +kernel), rfl⟩
theorem mw_423 : Cond.methodLink RX6 232 yX6_forgetCrystal ∈ gT := List.mem_filter.mpr ⟨List.mem_of_getElem? (i := 423) (by decide +kernel), rfl⟩
theorem mw_425 : Cond.instanceMethod yX6_forgetCrystal ∈ gT := List.mem_filter.mpr ⟨List.mem_of_getElem? (i := 425) (by decide +kernel), rfl⟩
theorem mw_426 : Cond.code yX6_forgetCrystal cX6_forgetCrystal 1 none ∈ gT := List.mem_filter.mpr ⟨List.mem_of_getElem? (i := 426) (by decide +kernel), rfl⟩
theorem mw_427 : Cond.methodLinkNest RX6 79 yX2_put RX6 ∈ lw_tbl := List.mem_of_getElem? (i := 427) (by decide +kernel)
theorem mw_428 : Cond.methodLink RL 18 yX6_family ∈ gT := List.mem_filter.mpr ⟨List.mem_of_getElem? (i := 428) (by decide +kernel), rfl⟩
theorem mw_429 : Cond.instanceMethod yX6_family ∈ gT := List.mem_filter.mpr ⟨List.mem_of_getElem? (i := 429) (by decide +kernel), rfl⟩
theorem mw_430 : Cond.selects RX6 yX6_family yX6_family ∈ gT := List.mem_filter.mpr ⟨List.mem_of_getElem? (i := 430) (by decide +kernel), rfl⟩
theorem mw_431 : Cond.code yX6_family cX6_family 6 (some .int) ∈ gT := List.mem_filter.mpr ⟨List.mem_of_getElem? (i := 431) (by decide +kernel), rfl⟩
theorem mw_432 : Cond.methodLink RX6 83 yX6_isTurnSet ∈ gT := List.mem_filter.mpr ⟨List.mem_of_getElem? (i := 432) (by decide +kernel), rfl⟩
theorem mw_433 : Cond.static yX6_isTurnSet ∈ gT := List.mem_filter.mpr ⟨List.mem_of_getElem? (i := 433) (by decide +kernel), rfl⟩
theorem mw_434 : Cond.code yX6_isTurnSet cX6_isTurnSet 1 (some .boolean) ∈ gT := List.mem_filter.mpr ⟨List.mem_of_getElem? (i := 434) (by decide +kernel), rfl⟩
theorem mw_435 : Cond.methodLinkNest RX6 86 yX0_gather RX6 ∈ lw_tbl := List.mem_of_getElem? (i := 435) (by decide +kernel)
theorem mw_437 : Cond.instanceMethod yX0_gather ∈ gT := List.mem_filter.mpr ⟨List.mem_of_getElem? (i := 437) (by decide +kernel), rfl⟩
theorem mw_438 : Cond.code yX0_gather cX0_gather 6 none ∈ gT := List.mem_filter.mpr ⟨List.mem_of_getElem? (i := 438) (by decide +kernel), rfl⟩
theorem mw_439 : Cond.methodLink RX0 19 yJ7_fill_031fb ∈ gT := List.mem_filter.mpr ⟨List.mem_of_getElem? (i := 439) (by decide +kernel), rfl⟩
theorem mw_440 : Cond.static yJ7_fill_031fb ∈ gT := List.mem_filter.mpr ⟨List.mem_of_getElem? (i := 440) (by decide +kernel), rfl⟩
theorem mw_441 : Cond.code yJ7_fill_031fb cJ7_fill_031fb 4 none ∈ gT := List.mem_filter.mpr ⟨List.mem_of_getElem? (i := 441) (by decide +kernel), rfl⟩
theorem mw_442 : Cond.methodLink RX0 29 yX0_note ∈ gT := List.mem_filter.mpr ⟨List.mem_of_getElem? (i := 442) (by decide +kernel), rfl⟩
theorem mw_444 : Cond.instanceMethod yX0_note ∈ gT := List.mem_filter.mpr ⟨List.mem_of_getElem? (i := 444) (by decide +kernel), rfl⟩
theorem mw_445 : Cond.code yX0_note cX0_note 5 none ∈ gT := List.mem_filter.mpr ⟨List.mem_of_getElem? (i := 445) (by decide +kernel), rfl⟩
theorem mw_446 : Cond.methodLink RX0 33 yX0_noteTurned ∈ gT := List.mem_filter.mpr ⟨List.mem_of_getElem? (i := 446) (by decide +kernel), rfl⟩
theorem mw_448 : Cond.instanceMethod yX0_noteTurned ∈ gT := List.mem_filter.mpr ⟨List.mem_of_getElem? (i := 448) (by decide +kernel), rfl⟩
theorem mw_449 : Cond.code yX0_noteTurned cX0_noteTurned 7 none ∈ gT := List.mem_filter.mpr ⟨List.mem_of_getElem? (i := 449) (by decide +kernel), rfl⟩
theorem mw_450 : Cond.methodLinkNest RX0 40 yX6_turned RX6 ∈ lw_tbl := List.mem_of_getElem? (i := 450) (by decide +kernel)
theorem mw_451 : Cond.static yX6_turned ∈ gT := List.mem_filter.mpr ⟨List.mem_of_getElem? (i := 451) (by decide +kernel), rfl⟩
theorem mw_452 : Cond.code yX6_turned cX6_turned 8 (some .int) ∈ gT := List.mem_filter.mpr ⟨List.mem_of_getElem? (i := 452) (by decide +kernel), rfl⟩
theorem mw_453 : Cond.fieldLink RX6 308 RX6 "TURN_FROM" "[I" ∈ gT := List.mem_filter.mpr ⟨List.mem_of_getElem? (i := 453) (by decide +kernel), rfl⟩
theorem mw_455 : Cond.fieldLink RX6 311 RX6 "TURN_SIGN" "[I" ∈ gT := List.mem_filter.mpr ⟨List.mem_of_getElem? (i := 455) (by decide +kernel), rfl⟩
theorem mw_457 : Cond.methodLink RX0 37 yX0_putInOrder ∈ gT := List.mem_filter.mpr ⟨List.mem_of_getElem? (i := 457) (by decide +kernel), rfl⟩
theorem mw_459 : Cond.instanceMethod yX0_putInOrder ∈ gT := List.mem_filter.mpr ⟨List.mem_of_getElem? (i := 459) (by decide +kernel), rfl⟩
theorem mw_460 : Cond.code yX0_putInOrder cX0_putInOrder 3 none ∈ gT := List.mem_filter.mpr ⟨List.mem_of_getElem? (i := 460) (by decide +kernel), rfl⟩
theorem mw_461 : Cond.methodLinkNest RX6 90 yX2_putFamily RX6 ∈ lw_tbl := List.mem_of_getElem? (i := 461) (by decide +kernel)
theorem mw_463 : Cond.instanceMethod yX2_putFamily ∈ gT := List.mem_filter.mpr ⟨List.mem_of_getElem? (i := 463) (by decide +kernel), rfl⟩
theorem mw_464 : Cond.code yX2_putFamily cX2_putFamily 5 none ∈ gT := List.mem_filter.mpr ⟨List.mem_of_getElem? (i := 464) (by decide +kernel), rfl⟩
theorem mw_465 : Cond.methodLink RL 23 yX6_off ∈ gT := List.mem_filter.mpr ⟨List.mem_of_getElem? (i := 465) (by decide +kernel), rfl⟩
theorem mw_466 : Cond.instanceMethod yX6_off ∈ gT := List.mem_filter.mpr ⟨List.mem_of_getElem? (i := 466) (by decide +kernel), rfl⟩
theorem mw_467 : Cond.selects RX6 yX6_off yX6_off ∈ gT := List.mem_filter.mpr ⟨List.mem_of_getElem? (i := 467) (by decide +kernel), rfl⟩
theorem mw_468 : Cond.code yX6_off cX6_off 4 (some .int) ∈ gT := List.mem_filter.mpr ⟨List.mem_of_getElem? (i := 468) (by decide +kernel), rfl⟩
theorem mw_469 : Cond.methodLink RX6 94 yX6_isPlane ∈ gT := List.mem_filter.mpr ⟨List.mem_of_getElem? (i := 469) (by decide +kernel), rfl⟩
theorem mw_471 : Cond.instanceMethod yX6_isPlane ∈ gT := List.mem_filter.mpr ⟨List.mem_of_getElem? (i := 471) (by decide +kernel), rfl⟩
theorem mw_472 : Cond.code yX6_isPlane cX6_isPlane 2 (some .boolean) ∈ gT := List.mem_filter.mpr ⟨List.mem_of_getElem? (i := 472) (by decide +kernel), rfl⟩
theorem mw_473 : Cond.methodLink RL 28 yX6_drop ∈ gT := List.mem_filter.mpr ⟨List.mem_of_getElem? (i := 473) (by decide +kernel), rfl⟩
theorem mw_474 : Cond.instanceMethod yX6_drop ∈ gT := List.mem_filter.mpr ⟨List.mem_of_getElem? (i := 474) (by decide +kernel), rfl⟩
theorem mw_475 : Cond.selects RX6 yX6_drop yX6_drop ∈ gT := List.mem_filter.mpr ⟨List.mem_of_getElem? (i := 475) (by decide +kernel), rfl⟩
theorem mw_476 : Cond.code yX6_drop cX6_drop 2 (some .int) ∈ gT := List.mem_filter.mpr ⟨List.mem_of_getElem? (i := 476) (by decide +kernel), rfl⟩
theorem mw_477 : Cond.methodLinkNest RX6 101 yX2_takeOut RX6 ∈ lw_tbl := List.mem_of_getElem? (i := 477) (by decide +kernel)
theorem mw_479 : Cond.instanceMethod yX2_takeOut ∈ gT := List.mem_filter.mpr ⟨List.mem_of_getElem? (i := 479) (by decide +kernel), rfl⟩
theorem mw_480 : Cond.code yX2_takeOut cX2_takeOut 3 none ∈ gT := List.mem_filter.mpr ⟨List.mem_of_getElem? (i := 480) (by decide +kernel), rfl⟩
theorem mw_481 : Cond.methodLink RL 33 yX6_anew ∈ gT := List.mem_filter.mpr ⟨List.mem_of_getElem? (i := 481) (by decide +kernel), rfl⟩
theorem mw_482 : Cond.instanceMethod yX6_anew ∈ gT := List.mem_filter.mpr ⟨List.mem_of_getElem? (i := 482) (by decide +kernel), rfl⟩
theorem mw_483 : Cond.selects RX6 yX6_anew yX6_anew ∈ gT := List.mem_filter.mpr ⟨List.mem_of_getElem? (i := 483) (by decide +kernel), rfl⟩
theorem mw_484 : Cond.code yX6_anew cX6_anew 2 (some .int) ∈ gT := List.mem_filter.mpr ⟨List.mem_of_getElem? (i := 484) (by decide +kernel), rfl⟩
theorem mw_485 : Cond.methodLink RL 38 yX6_draw ∈ gT := List.mem_filter.mpr ⟨List.mem_of_getElem? (i := 485) (by decide +kernel), rfl⟩
theorem mw_486 : Cond.instanceMethod yX6_draw ∈ gT := List.mem_filter.mpr ⟨List.mem_of_getElem? (i := 486) (by decide +kernel), rfl⟩
theorem mw_487 : Cond.selects RX6 yX6_draw yX6_draw ∈ gT := List.mem_filter.mpr ⟨List.mem_of_getElem? (i := 487) (by decide +kernel), rfl⟩
theorem mw_488 : Cond.code yX6_draw cX6_draw 6 (some .int) ∈ gT := List.mem_filter.mpr ⟨List.mem_of_getElem? (i := 488) (by decide +kernel), rfl⟩
theorem mw_489 : Cond.constant RX6 105 (999999) ∈ gT := List.mem_filter.mpr ⟨List.mem_of_getElem? (i := 489) (by decide +kernel), rfl⟩
theorem mw_490 : Cond.constantLong RX6 106 (1103515245) ∈ gT := List.mem_filter.mpr ⟨List.mem_of_getElem? (i := 490) (by decide +kernel), rfl⟩
theorem mw_491 : Cond.constantLong RX6 108 (12345) ∈ gT := List.mem_filter.mpr ⟨List.mem_of_getElem? (i := 491) (by decide +kernel), rfl⟩
theorem mw_492 : Cond.constantLong RX6 110 (2147483648) ∈ gT := List.mem_filter.mpr ⟨List.mem_of_getElem? (i := 492) (by decide +kernel), rfl⟩
theorem mw_493 : Cond.methodLink RX6 112 yX6_putDrawn ∈ gT := List.mem_filter.mpr ⟨List.mem_of_getElem? (i := 493) (by decide +kernel), rfl⟩
theorem mw_495 : Cond.instanceMethod yX6_putDrawn ∈ gT := List.mem_filter.mpr ⟨List.mem_of_getElem? (i := 495) (by decide +kernel), rfl⟩
theorem mw_496 : Cond.code yX6_putDrawn cX6_putDrawn 6 none ∈ gT := List.mem_filter.mpr ⟨List.mem_of_getElem? (i := 496) (by decide +kernel), rfl⟩
theorem mw_497 : Cond.constantLong RX6 271 (65536) ∈ gT := List.mem_filter.mpr ⟨List.mem_of_getElem? (i := 497) (by decide +kernel), rfl⟩
theorem mw_498 : Cond.constantLong RX6 273 (7) ∈ gT := List.mem_filter.mpr ⟨List.mem_of_getElem? (i := 498) (by decide +kernel), rfl⟩
theorem mw_499 : Cond.constantLong RX6 275 (1024) ∈ gT := List.mem_filter.mpr ⟨List.mem_of_getElem? (i := 499) (by decide +kernel), rfl⟩
theorem mw_500 : Cond.constantLong RX6 277 (32768) ∈ gT := List.mem_filter.mpr ⟨List.mem_of_getElem? (i := 500) (by decide +kernel), rfl⟩
theorem mw_501 : Cond.constantLong RX6 279 (512) ∈ gT := List.mem_filter.mpr ⟨List.mem_of_getElem? (i := 501) (by decide +kernel), rfl⟩
theorem mw_502 : Cond.constantLong RX6 240 (31) ∈ gT := List.mem_filter.mpr ⟨List.mem_of_getElem? (i := 502) (by decide +kernel), rfl⟩
theorem mw_503 : Cond.methodLink RX6 116 yX6_crystal ∈ gT := List.mem_filter.mpr ⟨List.mem_of_getElem? (i := 503) (by decide +kernel), rfl⟩
theorem mw_505 : Cond.instanceMethod yX6_crystal ∈ gT := List.mem_filter.mpr ⟨List.mem_of_getElem? (i := 505) (by decide +kernel), rfl⟩
theorem mw_506 : Cond.code yX6_crystal cX6_crystal 1 (some (.object "CrystalCuts$Solid")) ∈ gT := List.mem_filter.mpr ⟨List.mem_of_getElem? (i := 506) (by decide +kernel), rfl⟩
theorem mw_507 : Cond.methodLinkNest RX6 264 yX4_cut RX6 ∈ lw_tbl := List.mem_of_getElem? (i := 507) (by decide +kernel)
theorem mw_509 : Cond.instanceMethod yX4_cut ∈ gT := List.mem_filter.mpr ⟨List.mem_of_getElem? (i := 509) (by decide +kernel), rfl⟩
theorem mw_510 : Cond.code yX4_cut cX4_cut 5 none ∈ gT := List.mem_filter.mpr ⟨List.mem_of_getElem? (i := 510) (by decide +kernel), rfl⟩
theorem mw_511 : Cond.methodLinkNest RX4 46 yX1_lay RX6 ∈ lw_tbl := List.mem_of_getElem? (i := 511) (by decide +kernel)
theorem mw_513 : Cond.instanceMethod yX1_lay ∈ gT := List.mem_filter.mpr ⟨List.mem_of_getElem? (i := 513) (by decide +kernel), rfl⟩
theorem mw_514 : Cond.code yX1_lay cX1_lay 12 (some .boolean) ∈ gT := List.mem_filter.mpr ⟨List.mem_of_getElem? (i := 514) (by decide +kernel), rfl⟩
theorem mw_515 : Cond.methodLinkNest RX4 50 yX1_isLeftBy RX6 ∈ lw_tbl := List.mem_of_getElem? (i := 515) (by decide +kernel)
theorem mw_517 : Cond.instanceMethod yX1_isLeftBy ∈ gT := List.mem_filter.mpr ⟨List.mem_of_getElem? (i := 517) (by decide +kernel), rfl⟩
theorem mw_518 : Cond.code yX1_isLeftBy cX1_isLeftBy 4 (some .boolean) ∈ gT := List.mem_filter.mpr ⟨List.mem_of_getElem? (i := 518) (by decide +kernel), rfl⟩
theorem mw_519 : Cond.methodLink RX1 61 yX1_isLeftBehind ∈ gT := List.mem_filter.mpr ⟨List.mem_of_getElem? (i := 519) (by decide +kernel), rfl⟩
theorem mw_521 : Cond.instanceMethod yX1_isLeftBehind ∈ gT := List.mem_filter.mpr ⟨List.mem_of_getElem? (i := 521) (by decide +kernel), rfl⟩
theorem mw_522 : Cond.code yX1_isLeftBehind cX1_isLeftBehind 5 (some .boolean) ∈ gT := List.mem_filter.mpr ⟨List.mem_of_getElem? (i := 522) (by decide +kernel), rfl⟩
theorem mw_523 : Cond.methodLink RX4 60 yX4_keepPoint ∈ gT := List.mem_filter.mpr ⟨List.mem_of_getElem? (i := 523) (by decide +kernel), rfl⟩
theorem mw_525 : Cond.instanceMethod yX4_keepPoint ∈ gT := List.mem_filter.mpr ⟨List.mem_of_getElem? (i := 525) (by decide +kernel), rfl⟩
theorem mw_526 : Cond.code yX4_keepPoint cX4_keepPoint 9 none ∈ gT := List.mem_filter.mpr ⟨List.mem_of_getElem? (i := 526) (by decide +kernel), rfl⟩
theorem mw_527 : Cond.methodLinkNest RX4 91 yX6_commonDivisor RX6 ∈ lw_tbl := List.mem_of_getElem? (i := 527) (by decide +kernel)
theorem mw_528 : Cond.static yX6_commonDivisor ∈ gT := List.mem_filter.mpr ⟨List.mem_of_getElem? (i := 528) (by decide +kernel), rfl⟩
theorem mw_529 : Cond.code yX6_commonDivisor cX6_commonDivisor 6 (some .int) ∈ gT := List.mem_filter.mpr ⟨List.mem_of_getElem? (i := 529) (by decide +kernel), rfl⟩
theorem mw_530 : Cond.methodLink RX6 314 Lib.Math.abs.name ∈ gT := List.mem_filter.mpr ⟨List.mem_of_getElem? (i := 530) (by decide +kernel), rfl⟩
theorem mw_531 : Cond.static Lib.Math.abs.name ∈ gT := List.mem_filter.mpr ⟨List.mem_of_getElem? (i := 531) (by decide +kernel), rfl⟩
theorem mw_532 : Cond.code Lib.Math.abs.name Lib.Math.abs.code 1 (some .int) ∈ gT := List.mem_filter.mpr ⟨List.mem_of_getElem? (i := 532) (by decide +kernel), rfl⟩
theorem mw_533 : Cond.methodLink RX4 95 yX4_placeOf ∈ gT := List.mem_filter.mpr ⟨List.mem_of_getElem? (i := 533) (by decide +kernel), rfl⟩
theorem mw_535 : Cond.instanceMethod yX4_placeOf ∈ gT := List.mem_filter.mpr ⟨List.mem_of_getElem? (i := 535) (by decide +kernel), rfl⟩
theorem mw_536 : Cond.code yX4_placeOf cX4_placeOf 9 (some .int) ∈ gT := List.mem_filter.mpr ⟨List.mem_of_getElem? (i := 536) (by decide +kernel), rfl⟩
theorem mw_537 : Cond.methodLink RX4 99 yX4_order ∈ gT := List.mem_filter.mpr ⟨List.mem_of_getElem? (i := 537) (by decide +kernel), rfl⟩
theorem mw_539 : Cond.instanceMethod yX4_order ∈ gT := List.mem_filter.mpr ⟨List.mem_of_getElem? (i := 539) (by decide +kernel), rfl⟩
theorem mw_540 : Cond.code yX4_order cX4_order 9 (some .int) ∈ gT := List.mem_filter.mpr ⟨List.mem_of_getElem? (i := 540) (by decide +kernel), rfl⟩
theorem mw_541 : Cond.methodLink RX4 103 yX4_putCorner ∈ gT := List.mem_filter.mpr ⟨List.mem_of_getElem? (i := 541) (by decide +kernel), rfl⟩
theorem mw_543 : Cond.instanceMethod yX4_putCorner ∈ gT := List.mem_filter.mpr ⟨List.mem_of_getElem? (i := 543) (by decide +kernel), rfl⟩
theorem mw_544 : Cond.code yX4_putCorner cX4_putCorner 7 none ∈ gT := List.mem_filter.mpr ⟨List.mem_of_getElem? (i := 544) (by decide +kernel), rfl⟩
theorem mw_545 : Cond.methodLinkNest RX6 268 yX4_look RX6 ∈ lw_tbl := List.mem_of_getElem? (i := 545) (by decide +kernel)
theorem mw_547 : Cond.instanceMethod yX4_look ∈ gT := List.mem_filter.mpr ⟨List.mem_of_getElem? (i := 547) (by decide +kernel), rfl⟩
theorem mw_548 : Cond.code yX4_look cX4_look 3 none ∈ gT := List.mem_filter.mpr ⟨List.mem_of_getElem? (i := 548) (by decide +kernel), rfl⟩
theorem mw_549 : Cond.methodLink RX4 107 yJ7_fill_53178 ∈ gT := List.mem_filter.mpr ⟨List.mem_of_getElem? (i := 549) (by decide +kernel), rfl⟩
theorem mw_550 : Cond.static yJ7_fill_53178 ∈ gT := List.mem_filter.mpr ⟨List.mem_of_getElem? (i := 550) (by decide +kernel), rfl⟩
theorem mw_551 : Cond.code yJ7_fill_53178 cJ7_fill_53178 4 none ∈ gT := List.mem_filter.mpr ⟨List.mem_of_getElem? (i := 551) (by decide +kernel), rfl⟩
theorem mw_552 : Cond.methodLink RX4 116 yX4_markCornersOn ∈ gT := List.mem_filter.mpr ⟨List.mem_of_getElem? (i := 552) (by decide +kernel), rfl⟩
theorem mw_554 : Cond.instanceMethod yX4_markCornersOn ∈ gT := List.mem_filter.mpr ⟨List.mem_of_getElem? (i := 554) (by decide +kernel), rfl⟩
theorem mw_555 : Cond.code yX4_markCornersOn cX4_markCornersOn 5 (some .int) ∈ gT := List.mem_filter.mpr ⟨List.mem_of_getElem? (i := 555) (by decide +kernel), rfl⟩
theorem mw_556 : Cond.methodLink RX4 133 yX4_along ∈ gT := List.mem_filter.mpr ⟨List.mem_of_getElem? (i := 556) (by decide +kernel), rfl⟩
theorem mw_558 : Cond.instanceMethod yX4_along ∈ gT := List.mem_filter.mpr ⟨List.mem_of_getElem? (i := 558) (by decide +kernel), rfl⟩
theorem mw_559 : Cond.code yX4_along cX4_along 5 (some .int) ∈ gT := List.mem_filter.mpr ⟨List.mem_of_getElem? (i := 559) (by decide +kernel), rfl⟩
theorem mw_560 : Cond.methodLinkNest RX4 120 yX2_hasEarlierTwin RX6 ∈ lw_tbl := List.mem_of_getElem? (i := 560) (by decide +kernel)
theorem mw_562 : Cond.instanceMethod yX2_hasEarlierTwin ∈ gT := List.mem_filter.mpr ⟨List.mem_of_getElem? (i := 562) (by decide +kernel), rfl⟩
theorem mw_563 : Cond.code yX2_hasEarlierTwin cX2_hasEarlierTwin 3 (some .boolean) ∈ gT := List.mem_filter.mpr ⟨List.mem_of_getElem? (i := 563) (by decide +kernel), rfl⟩
theorem mw_564 : Cond.methodLink RX2 44 yX2_areSame ∈ gT := List.mem_filter.mpr ⟨List.mem_of_getElem? (i := 564) (by decide +kernel), rfl⟩
theorem mw_566 : Cond.instanceMethod yX2_areSame ∈ gT := List.mem_filter.mpr ⟨List.mem_of_getElem? (i := 566) (by decide +kernel), rfl⟩
theorem mw_567 : Cond.code yX2_areSame cX2_areSame 3 (some .boolean) ∈ gT := List.mem_filter.mpr ⟨List.mem_of_getElem? (i := 567) (by decide +kernel), rfl⟩
theorem mw_568 : Cond.methodLink RL 42 yX6_of ∈ gT := List.mem_filter.mpr ⟨List.mem_of_getElem? (i := 568) (by decide +kernel), rfl⟩
theorem mw_569 : Cond.instanceMethod yX6_of ∈ gT := List.mem_filter.mpr ⟨List.mem_of_getElem? (i := 569) (by decide +kernel), rfl⟩
theorem mw_570 : Cond.selects RX6 yX6_of yX6_of ∈ gT := List.mem_filter.mpr ⟨List.mem_of_getElem? (i := 570) (by decide +kernel), rfl⟩
theorem mw_571 : Cond.code yX6_of cX6_of 3 (some .int) ∈ gT := List.mem_filter.mpr ⟨List.mem_of_getElem? (i := 571) (by decide +kernel), rfl⟩
theorem mw_572 : Cond.methodLink RX6 123 yX6_ofPlane ∈ gT := List.mem_filter.mpr ⟨List.mem_of_getElem? (i := 572) (by decide +kernel), rfl⟩
theorem mw_574 : Cond.instanceMethod yX6_ofPlane ∈ gT := List.mem_filter.mpr ⟨List.mem_of_getElem? (i := 574) (by decide +kernel), rfl⟩
theorem mw_575 : Cond.code yX6_ofPlane cX6_ofPlane 3 (some .int) ∈ gT := List.mem_filter.mpr ⟨List.mem_of_getElem? (i := 575) (by decide +kernel), rfl⟩
theorem mw_576 : Cond.methodLinkNest RX6 171 yX4_isShown RX6 ∈ lw_tbl := List.mem_of_getElem? (i := 576) (by decide +kernel)
theorem mw_578 : Cond.instanceMethod yX4_isShown ∈ gT := List.mem_filter.mpr ⟨List.mem_of_getElem? (i := 578) (by decide +kernel), rfl⟩
theorem mw_579 : Cond.code yX4_isShown cX4_isShown 2 (some .boolean) ∈ gT := List.mem_filter.mpr ⟨List.mem_of_getElem? (i := 579) (by decide +kernel), rfl⟩
theorem mw_580 : Cond.methodLinkNest RX6 293 yX4_edgesOn RX6 ∈ lw_tbl := List.mem_of_getElem? (i := 580) (by decide +kernel)
theorem mw_582 : Cond.instanceMethod yX4_edgesOn ∈ gT := List.mem_filter.mpr ⟨List.mem_of_getElem? (i := 582) (by decide +kernel), rfl⟩
theorem mw_583 : Cond.code yX4_edgesOn cX4_edgesOn 2 (some .int) ∈ gT := List.mem_filter.mpr ⟨List.mem_of_getElem? (i := 583) (by decide +kernel), rfl⟩
theorem mw_584 : Cond.methodLink RX4 149 yX4_isShown ∈ gT := List.mem_filter.mpr ⟨List.mem_of_getElem? (i := 584) (by decide +kernel), rfl⟩
theorem mw_585 : Cond.methodLink RL 46 yX6_member ∈ gT := List.mem_filter.mpr ⟨List.mem_of_getElem? (i := 585) (by decide +kernel), rfl⟩
theorem mw_586 : Cond.instanceMethod yX6_member ∈ gT := List.mem_filter.mpr ⟨List.mem_of_getElem? (i := 586) (by decide +kernel), rfl⟩
theorem mw_587 : Cond.selects RX6 yX6_member yX6_member ∈ gT := List.mem_filter.mpr ⟨List.mem_of_getElem? (i := 587) (by decide +kernel), rfl⟩
theorem mw_588 : Cond.code yX6_member cX6_member 6 (some .int) ∈ gT := List.mem_filter.mpr ⟨List.mem_of_getElem? (i := 588) (by decide +kernel), rfl⟩
theorem mw_589 : Cond.methodLink RL 50 yX6_all ∈ gT := List.mem_filter.mpr ⟨List.mem_of_getElem? (i := 589) (by decide +kernel), rfl⟩
theorem mw_590 : Cond.instanceMethod yX6_all ∈ gT := List.mem_filter.mpr ⟨List.mem_of_getElem? (i := 590) (by decide +kernel), rfl⟩
theorem mw_591 : Cond.selects RX6 yX6_all yX6_all ∈ gT := List.mem_filter.mpr ⟨List.mem_of_getElem? (i := 591) (by decide +kernel), rfl⟩
theorem mw_592 : Cond.code yX6_all cX6_all 2 (some .int) ∈ gT := List.mem_filter.mpr ⟨List.mem_of_getElem? (i := 592) (by decide +kernel), rfl⟩
theorem mw_593 : Cond.methodLinkNest RX6 130 yX4_showing RX6 ∈ lw_tbl := List.mem_of_getElem? (i := 593) (by decide +kernel)
theorem mw_595 : Cond.instanceMethod yX4_showing ∈ gT := List.mem_filter.mpr ⟨List.mem_of_getElem? (i := 595) (by decide +kernel), rfl⟩
theorem mw_596 : Cond.code yX4_showing cX4_showing 1 (some .int) ∈ gT := List.mem_filter.mpr ⟨List.mem_of_getElem? (i := 596) (by decide +kernel), rfl⟩
theorem mw_597 : Cond.methodLink RX4 139 yJ6_bitCount_0f7a4 ∈ gT := List.mem_filter.mpr ⟨List.mem_of_getElem? (i := 597) (by decide +kernel), rfl⟩
theorem mw_598 : Cond.static yJ6_bitCount_0f7a4 ∈ gT := List.mem_filter.mpr ⟨List.mem_of_getElem? (i := 598) (by decide +kernel), rfl⟩
theorem mw_599 : Cond.code yJ6_bitCount_0f7a4 cJ6_bitCount_0f7a4 1 (some .int) ∈ gT := List.mem_filter.mpr ⟨List.mem_of_getElem? (i := 599) (by decide +kernel), rfl⟩
theorem mw_600 : Cond.constant RJ6 265 (1431655765) ∈ gT := List.mem_filter.mpr ⟨List.mem_of_getElem? (i := 600) (by decide +kernel), rfl⟩
theorem mw_601 : Cond.constant RJ6 266 (858993459) ∈ gT := List.mem_filter.mpr ⟨List.mem_of_getElem? (i := 601) (by decide +kernel), rfl⟩
theorem mw_602 : Cond.constant RJ6 267 (252645135) ∈ gT := List.mem_filter.mpr ⟨List.mem_of_getElem? (i := 602) (by decide +kernel), rfl⟩
theorem mw_603 : Cond.methodLinkNest RX6 133 yX4_edges RX6 ∈ lw_tbl := List.mem_of_getElem? (i := 603) (by decide +kernel)
theorem mw_605 : Cond.instanceMethod yX4_edges ∈ gT := List.mem_filter.mpr ⟨List.mem_of_getElem? (i := 605) (by decide +kernel), rfl⟩
theorem mw_606 : Cond.code yX4_edges cX4_edges 1 (some .int) ∈ gT := List.mem_filter.mpr ⟨List.mem_of_getElem? (i := 606) (by decide +kernel), rfl⟩
theorem mw_607 : Cond.methodLink RX4 145 yX4_showing ∈ gT := List.mem_filter.mpr ⟨List.mem_of_getElem? (i := 607) (by decide +kernel), rfl⟩
theorem mw_608 : Cond.methodLinkNest RX6 136 yX4_mostCornersOnPlane RX6 ∈ lw_tbl := List.mem_of_getElem? (i := 608) (by decide +kernel)
theorem mw_610 : Cond.instanceMethod yX4_mostCornersOnPlane ∈ gT := List.mem_filter.mpr ⟨List.mem_of_getElem? (i := 610) (by decide +kernel), rfl⟩
theorem mw_611 : Cond.code yX4_mostCornersOnPlane cX4_mostCornersOnPlane 4 (some .int) ∈ gT := List.mem_filter.mpr ⟨List.mem_of_getElem? (i := 611) (by decide +kernel), rfl⟩
theorem mw_612 : Cond.methodLink RX4 152 Lib.Math.max.name ∈ gT := List.mem_filter.mpr ⟨List.mem_of_getElem? (i := 612) (by decide +kernel), rfl⟩
theorem mw_613 : Cond.static Lib.Math.max.name ∈ gT := List.mem_filter.mpr ⟨List.mem_of_getElem? (i := 613) (by decide +kernel), rfl⟩
theorem mw_614 : Cond.code Lib.Math.max.name Lib.Math.max.code 2 (some .int) ∈ gT := List.mem_filter.mpr ⟨List.mem_of_getElem? (i := 614) (by decide +kernel), rfl⟩
theorem mw_615 : Cond.methodLinkNest RX6 139 yX4_mostPlanesOnCorner RX6 ∈ lw_tbl := List.mem_of_getElem? (i := 615) (by decide +kernel)
theorem mw_617 : Cond.instanceMethod yX4_mostPlanesOnCorner ∈ gT := List.mem_filter.mpr ⟨List.mem_of_getElem? (i := 617) (by decide +kernel), rfl⟩
theorem mw_618 : Cond.code yX4_mostPlanesOnCorner cX4_mostPlanesOnCorner 3 (some .int) ∈ gT := List.mem_filter.mpr ⟨List.mem_of_getElem? (i := 618) (by decide +kernel), rfl⟩
theorem mw_619 : Cond.methodLink RL 54 yX6_corner ∈ gT := List.mem_filter.mpr ⟨List.mem_of_getElem? (i := 619) (by decide +kernel), rfl⟩
theorem mw_620 : Cond.instanceMethod yX6_corner ∈ gT := List.mem_filter.mpr ⟨List.mem_of_getElem? (i := 620) (by decide +kernel), rfl⟩
theorem mw_621 : Cond.selects RX6 yX6_corner yX6_corner ∈ gT := List.mem_filter.mpr ⟨List.mem_of_getElem? (i := 621) (by decide +kernel), rfl⟩
theorem mw_622 : Cond.code yX6_corner cX6_corner 4 (some .int) ∈ gT := List.mem_filter.mpr ⟨List.mem_of_getElem? (i := 622) (by decide +kernel), rfl⟩
theorem mw_623 : Cond.methodLink RX6 142 yX6_refuseNo ∈ gT := List.mem_filter.mpr ⟨List.mem_of_getElem? (i := 623) (by decide +kernel), rfl⟩
theorem mw_625 : Cond.instanceMethod yX6_refuseNo ∈ gT := List.mem_filter.mpr ⟨List.mem_of_getElem? (i := 625) (by decide +kernel), rfl⟩
theorem mw_626 : Cond.code yX6_refuseNo cX6_refuseNo 1 (some .int) ∈ gT := List.mem_filter.mpr ⟨List.mem_of_getElem? (i := 626) (by decide +kernel), rfl⟩
theorem mw_627 : Cond.methodLinkNest RX6 145 yX4_coordinate RX6 ∈ lw_tbl := List.mem_of_getElem? (i := 627) (by decide +kernel)
theorem mw_629 : Cond.instanceMethod yX4_coordinate ∈ gT := List.mem_filter.mpr ⟨List.mem_of_getElem? (i := 629) (by decide +kernel), rfl⟩
theorem mw_630 : Cond.code yX4_coordinate cX4_coordinate 3 (some .int) ∈ gT := List.mem_filter.mpr ⟨List.mem_of_getElem? (i := 630) (by decide +kernel), rfl⟩
theorem mw_631 : Cond.methodLink RX6 151 yX6_setFraction ∈ gT := List.mem_filter.mpr ⟨List.mem_of_getElem? (i := 631) (by decide +kernel), rfl⟩
theorem mw_633 : Cond.instanceMethod yX6_setFraction ∈ gT := List.mem_filter.mpr ⟨List.mem_of_getElem? (i := 633) (by decide +kernel), rfl⟩
theorem mw_634 : Cond.code yX6_setFraction cX6_setFraction 4 none ∈ gT := List.mem_filter.mpr ⟨List.mem_of_getElem? (i := 634) (by decide +kernel), rfl⟩
theorem mw_635 : Cond.methodLink RX6 296 yX6_commonDivisor ∈ gT := List.mem_filter.mpr ⟨List.mem_of_getElem? (i := 635) (by decide +kernel), rfl⟩
theorem mw_636 : Cond.methodLink RL 58 yX6_meets ∈ gT := List.mem_filter.mpr ⟨List.mem_of_getElem? (i := 636) (by decide +kernel), rfl⟩
theorem mw_637 : Cond.instanceMethod yX6_meets ∈ gT := List.mem_filter.mpr ⟨List.mem_of_getElem? (i := 637) (by decide +kernel), rfl⟩
theorem mw_638 : Cond.selects RX6 yX6_meets yX6_meets ∈ gT := List.mem_filter.mpr ⟨List.mem_of_getElem? (i := 638) (by decide +kernel), rfl⟩
theorem mw_639 : Cond.code yX6_meets cX6_meets 4 (some .int) ∈ gT := List.mem_filter.mpr ⟨List.mem_of_getElem? (i := 639) (by decide +kernel), rfl⟩
theorem mw_640 : Cond.methodLink RX6 158 yJ6_bitCount_0f7a4 ∈ gT := List.mem_filter.mpr ⟨List.mem_of_getElem? (i := 640) (by decide +kernel), rfl⟩
theorem mw_641 : Cond.methodLink RL 62 yX6_part ∈ gT := List.mem_filter.mpr ⟨List.mem_of_getElem? (i := 641) (by decide +kernel), rfl⟩
theorem mw_642 : Cond.instanceMethod yX6_part ∈ gT := List.mem_filter.mpr ⟨List.mem_of_getElem? (i := 642) (by decide +kernel), rfl⟩
theorem mw_643 : Cond.selects RX6 yX6_part yX6_part ∈ gT := List.mem_filter.mpr ⟨List.mem_of_getElem? (i := 643) (by decide +kernel), rfl⟩
theorem mw_644 : Cond.code yX6_part cX6_part 2 (some .long) ∈ gT := List.mem_filter.mpr ⟨List.mem_of_getElem? (i := 644) (by decide +kernel), rfl⟩
theorem mw_645 : Cond.constantLong RX6 163 (-1000000) ∈ gT := List.mem_filter.mpr ⟨List.mem_of_getElem? (i := 645) (by decide +kernel), rfl⟩
theorem mw_646 : Cond.methodLink RL 67 yX6_edge ∈ gT := List.mem_filter.mpr ⟨List.mem_of_getElem? (i := 646) (by decide +kernel), rfl⟩
theorem mw_647 : Cond.instanceMethod yX6_edge ∈ gT := List.mem_filter.mpr ⟨List.mem_of_getElem? (i := 647) (by decide +kernel), rfl⟩
theorem mw_648 : Cond.selects RX6 yX6_edge yX6_edge ∈ gT := List.mem_filter.mpr ⟨List.mem_of_getElem? (i := 648) (by decide +kernel), rfl⟩
theorem mw_649 : Cond.code yX6_edge cX6_edge 6 (some .int) ∈ gT := List.mem_filter.mpr ⟨List.mem_of_getElem? (i := 649) (by decide +kernel), rfl⟩
theorem mw_650 : Cond.methodLinkNest RX6 168 yX4_cornersOnBoth RX6 ∈ lw_tbl := List.mem_of_getElem? (i := 650) (by decide +kernel)
theorem mw_652 : Cond.instanceMethod yX4_cornersOnBoth ∈ gT := List.mem_filter.mpr ⟨List.mem_of_getElem? (i := 652) (by decide +kernel), rfl⟩
theorem mw_653 : Cond.code yX4_cornersOnBoth cX4_cornersOnBoth 6 (some .int) ∈ gT := List.mem_filter.mpr ⟨List.mem_of_getElem? (i := 653) (by decide +kernel), rfl⟩
theorem mw_654 : Cond.methodLinkNest RX6 174 yX2_wayBetween RX6 ∈ lw_tbl := List.mem_of_getElem? (i := 654) (by decide +kernel)
theorem mw_656 : Cond.instanceMethod yX2_wayBetween ∈ gT := List.mem_filter.mpr ⟨List.mem_of_getElem? (i := 656) (by decide +kernel), rfl⟩
theorem mw_657 : Cond.code yX2_wayBetween cX2_wayBetween 10 (some .int) ∈ gT := List.mem_filter.mpr ⟨List.mem_of_getElem? (i := 657) (by decide +kernel), rfl⟩
theorem mw_658 : Cond.methodLinkNest RX2 48 yX6_commonDivisor RX6 ∈ lw_tbl := List.mem_of_getElem? (i := 658) (by decide +kernel)
theorem mw_659 : Cond.methodLink RL 72 yX6_reach ∈ gT := List.mem_filter.mpr ⟨List.mem_of_getElem? (i := 659) (by decide +kernel), rfl⟩
theorem mw_660 : Cond.instanceMethod yX6_reach ∈ gT := List.mem_filter.mpr ⟨List.mem_of_getElem? (i := 660) (by decide +kernel), rfl⟩
theorem mw_661 : Cond.selects RX6 yX6_reach yX6_reach ∈ gT := List.mem_filter.mpr ⟨List.mem_of_getElem? (i := 661) (by decide +kernel), rfl⟩
theorem mw_662 : Cond.code yX6_reach cX6_reach 7 (some .int) ∈ gT := List.mem_filter.mpr ⟨List.mem_of_getElem? (i := 662) (by decide +kernel), rfl⟩
theorem mw_663 : Cond.methodLinkNest RX6 178 yX4_farthest RX6 ∈ lw_tbl := List.mem_of_getElem? (i := 663) (by decide +kernel)
theorem mw_665 : Cond.instanceMethod yX4_farthest ∈ gT := List.mem_filter.mpr ⟨List.mem_of_getElem? (i := 665) (by decide +kernel), rfl⟩
theorem mw_666 : Cond.code yX4_farthest cX4_farthest 6 (some .int) ∈ gT := List.mem_filter.mpr ⟨List.mem_of_getElem? (i := 666) (by decide +kernel), rfl⟩
theorem mw_667 : Cond.methodLinkNest RX6 181 yX4_along RX6 ∈ lw_tbl := List.mem_of_getElem? (i := 667) (by decide +kernel)
theorem mw_668 : Cond.methodLinkNest RX6 185 yX4_cornersAt RX6 ∈ lw_tbl := List.mem_of_getElem? (i := 668) (by decide +kernel)
theorem mw_670 : Cond.instanceMethod yX4_cornersAt ∈ gT := List.mem_filter.mpr ⟨List.mem_of_getElem? (i := 670) (by decide +kernel), rfl⟩
theorem mw_671 : Cond.code yX4_cornersAt cX4_cornersAt 8 (some .int) ∈ gT := List.mem_filter.mpr ⟨List.mem_of_getElem? (i := 671) (by decide +kernel), rfl⟩
theorem mw_672 : Cond.methodLink RL 76 yX6_stays ∈ gT := List.mem_filter.mpr ⟨List.mem_of_getElem? (i := 672) (by decide +kernel), rfl⟩
theorem mw_673 : Cond.instanceMethod yX6_stays ∈ gT := List.mem_filter.mpr ⟨List.mem_of_getElem? (i := 673) (by decide +kernel), rfl⟩
theorem mw_674 : Cond.selects RX6 yX6_stays yX6_stays ∈ gT := List.mem_filter.mpr ⟨List.mem_of_getElem? (i := 674) (by decide +kernel), rfl⟩
theorem mw_675 : Cond.code yX6_stays cX6_stays 2 (some .int) ∈ gT := List.mem_filter.mpr ⟨List.mem_of_getElem? (i := 675) (by decide +kernel), rfl⟩
theorem mw_676 : Cond.methodLinkNest RX6 188 yX4_isKeptBy RX6 ∈ lw_tbl := List.mem_of_getElem? (i := 676) (by decide +kernel)
theorem mw_678 : Cond.instanceMethod yX4_isKeptBy ∈ gT := List.mem_filter.mpr ⟨List.mem_of_getElem? (i := 678) (by decide +kernel), rfl⟩
theorem mw_679 : Cond.code yX4_isKeptBy cX4_isKeptBy 7 (some .boolean) ∈ gT := List.mem_filter.mpr ⟨List.mem_of_getElem? (i := 679) (by decide +kernel), rfl⟩
theorem mw_680 : Cond.methodLinkNest RX4 157 yX6_turned RX6 ∈ lw_tbl := List.mem_of_getElem? (i := 680) (by decide +kernel)
theorem mw_681 : Cond.methodLink RL 80 yX6_symmetry ∈ gT := List.mem_filter.mpr ⟨List.mem_of_getElem? (i := 681) (by decide +kernel), rfl⟩
theorem mw_682 : Cond.instanceMethod yX6_symmetry ∈ gT := List.mem_filter.mpr ⟨List.mem_of_getElem? (i := 682) (by decide +kernel), rfl⟩
theorem mw_683 : Cond.selects RX6 yX6_symmetry yX6_symmetry ∈ gT := List.mem_filter.mpr ⟨List.mem_of_getElem? (i := 683) (by decide +kernel), rfl⟩
theorem mw_684 : Cond.code yX6_symmetry cX6_symmetry 4 (some .int) ∈ gT := List.mem_filter.mpr ⟨List.mem_of_getElem? (i := 684) (by decide +kernel), rfl⟩
theorem mw_685 : Cond.methodLink RL 84 yX6_hides ∈ gT := List.mem_filter.mpr ⟨List.mem_of_getElem? (i := 685) (by decide +kernel), rfl⟩
theorem mw_686 : Cond.instanceMethod yX6_hides ∈ gT := List.mem_filter.mpr ⟨List.mem_of_getElem? (i := 686) (by decide +kernel), rfl⟩
theorem mw_687 : Cond.selects RX6 yX6_hides yX6_hides ∈ gT := List.mem_filter.mpr ⟨List.mem_of_getElem? (i := 687) (by decide +kernel), rfl⟩
theorem mw_688 : Cond.code yX6_hides cX6_hides 8 (some .int) ∈ gT := List.mem_filter.mpr ⟨List.mem_of_getElem? (i := 688) (by decide +kernel), rfl⟩
theorem mw_689 : Cond.methodLink RX6 191 yX6_leastBeyond ∈ gT := List.mem_filter.mpr ⟨List.mem_of_getElem? (i := 689) (by decide +kernel), rfl⟩
theorem mw_690 : Cond.static yX6_leastBeyond ∈ gT := List.mem_filter.mpr ⟨List.mem_of_getElem? (i := 690) (by decide +kernel), rfl⟩
theorem mw_691 : Cond.code yX6_leastBeyond cX6_leastBeyond 3 (some .int) ∈ gT := List.mem_filter.mpr ⟨List.mem_of_getElem? (i := 691) (by decide +kernel), rfl⟩
theorem mw_692 : Cond.methodLink RX6 194 yX6_offsWithin ∈ gT := List.mem_filter.mpr ⟨List.mem_of_getElem? (i := 692) (by decide +kernel), rfl⟩
theorem mw_693 : Cond.static yX6_offsWithin ∈ gT := List.mem_filter.mpr ⟨List.mem_of_getElem? (i := 693) (by decide +kernel), rfl⟩
theorem mw_694 : Cond.code yX6_offsWithin cX6_offsWithin 2 (some .int) ∈ gT := List.mem_filter.mpr ⟨List.mem_of_getElem? (i := 694) (by decide +kernel), rfl⟩
theorem mw_695 : Cond.methodLink RX6 299 Lib.Math.min.name ∈ gT := List.mem_filter.mpr ⟨List.mem_of_getElem? (i := 695) (by decide +kernel), rfl⟩
theorem mw_696 : Cond.methodLink RL 88 yX6_spare ∈ gT := List.mem_filter.mpr ⟨List.mem_of_getElem? (i := 696) (by decide +kernel), rfl⟩
theorem mw_697 : Cond.instanceMethod yX6_spare ∈ gT := List.mem_filter.mpr ⟨List.mem_of_getElem? (i := 697) (by decide +kernel), rfl⟩
theorem mw_698 : Cond.selects RX6 yX6_spare yX6_spare ∈ gT := List.mem_filter.mpr ⟨List.mem_of_getElem? (i := 698) (by decide +kernel), rfl⟩
theorem mw_699 : Cond.code yX6_spare cX6_spare 2 (some .int) ∈ gT := List.mem_filter.mpr ⟨List.mem_of_getElem? (i := 699) (by decide +kernel), rfl⟩
theorem mw_700 : Cond.methodLink RX6 201 yX6_findSpare ∈ gT := List.mem_filter.mpr ⟨List.mem_of_getElem? (i := 700) (by decide +kernel), rfl⟩
theorem mw_702 : Cond.instanceMethod yX6_findSpare ∈ gT := List.mem_filter.mpr ⟨List.mem_of_getElem? (i := 702) (by decide +kernel), rfl⟩
theorem mw_703 : Cond.code yX6_findSpare cX6_findSpare 4 none ∈ gT := List.mem_filter.mpr ⟨List.mem_of_getElem? (i := 703) (by decide +kernel), rfl⟩
theorem mw_704 : Cond.methodLink RX6 304 yX6_cornersWithout ∈ gT := List.mem_filter.mpr ⟨List.mem_of_getElem? (i := 704) (by decide +kernel), rfl⟩
theorem mw_706 : Cond.instanceMethod yX6_cornersWithout ∈ gT := List.mem_filter.mpr ⟨List.mem_of_getElem? (i := 706) (by decide +kernel), rfl⟩
theorem mw_707 : Cond.code yX6_cornersWithout cX6_cornersWithout 3 (some .int) ∈ gT := List.mem_filter.mpr ⟨List.mem_of_getElem? (i := 707) (by decide +kernel), rfl⟩
theorem mw_708 : Cond.methodLink RL 92 yX6_type ∈ gT := List.mem_filter.mpr ⟨List.mem_of_getElem? (i := 708) (by decide +kernel), rfl⟩
theorem mw_709 : Cond.instanceMethod yX6_type ∈ gT := List.mem_filter.mpr ⟨List.mem_of_getElem? (i := 709) (by decide +kernel), rfl⟩
theorem mw_710 : Cond.selects RX6 yX6_type yX6_type ∈ gT := List.mem_filter.mpr ⟨List.mem_of_getElem? (i := 710) (by decide +kernel), rfl⟩
theorem mw_711 : Cond.code yX6_type cX6_type 2 (some .int) ∈ gT := List.mem_filter.mpr ⟨List.mem_of_getElem? (i := 711) (by decide +kernel), rfl⟩
theorem mw_712 : Cond.methodLink RL 96 yX6_clear ∈ gT := List.mem_filter.mpr ⟨List.mem_of_getElem? (i := 712) (by decide +kernel), rfl⟩
theorem mw_713 : Cond.instanceMethod yX6_clear ∈ gT := List.mem_filter.mpr ⟨List.mem_of_getElem? (i := 713) (by decide +kernel), rfl⟩
theorem mw_714 : Cond.selects RX6 yX6_clear yX6_clear ∈ gT := List.mem_filter.mpr ⟨List.mem_of_getElem? (i := 714) (by decide +kernel), rfl⟩
theorem mw_715 : Cond.code yX6_clear cX6_clear 2 (some .int) ∈ gT := List.mem_filter.mpr ⟨List.mem_of_getElem? (i := 715) (by decide +kernel), rfl⟩
theorem mw_716 : Cond.methodLink RL 100 yX6_reads ∈ gT := List.mem_filter.mpr ⟨List.mem_of_getElem? (i := 716) (by decide +kernel), rfl⟩
theorem mw_717 : Cond.instanceMethod yX6_reads ∈ gT := List.mem_filter.mpr ⟨List.mem_of_getElem? (i := 717) (by decide +kernel), rfl⟩
theorem mw_718 : Cond.selects RX6 yX6_reads yX6_reads ∈ gT := List.mem_filter.mpr ⟨List.mem_of_getElem? (i := 718) (by decide +kernel), rfl⟩
theorem mw_719 : Cond.code yX6_reads cX6_reads 2 (some .int) ∈ gT := List.mem_filter.mpr ⟨List.mem_of_getElem? (i := 719) (by decide +kernel), rfl⟩
theorem mw_720 : Cond.methodLinkNest RX6 217 yX2_copyFrom RX6 ∈ lw_tbl := List.mem_of_getElem? (i := 720) (by decide +kernel)
theorem mw_721 : Cond.methodLinkNest RX6 221 yX3_readAll RX6 ∈ lw_tbl := List.mem_of_getElem? (i := 721) (by decide +kernel)
theorem mw_723 : Cond.instanceMethod yX3_readAll ∈ gT := List.mem_filter.mpr ⟨List.mem_of_getElem? (i := 723) (by decide +kernel), rfl⟩
theorem mw_724 : Cond.code yX3_readAll cX3_readAll 4 (some .boolean) ∈ gT := List.mem_filter.mpr ⟨List.mem_of_getElem? (i := 724) (by decide +kernel), rfl⟩
theorem mw_725 : Cond.methodLink RX3 19 yX3_readOne ∈ gT := List.mem_filter.mpr ⟨List.mem_of_getElem? (i := 725) (by decide +kernel), rfl⟩
theorem mw_727 : Cond.instanceMethod yX3_readOne ∈ gT := List.mem_filter.mpr ⟨List.mem_of_getElem? (i := 727) (by decide +kernel), rfl⟩
theorem mw_728 : Cond.code yX3_readOne cX3_readOne 3 (some .boolean) ∈ gT := List.mem_filter.mpr ⟨List.mem_of_getElem? (i := 728) (by decide +kernel), rfl⟩
theorem mw_729 : Cond.methodLink RX3 30 yX3_isColonAhead ∈ gT := List.mem_filter.mpr ⟨List.mem_of_getElem? (i := 729) (by decide +kernel), rfl⟩
theorem mw_731 : Cond.instanceMethod yX3_isColonAhead ∈ gT := List.mem_filter.mpr ⟨List.mem_of_getElem? (i := 731) (by decide +kernel), rfl⟩
theorem mw_732 : Cond.code yX3_isColonAhead cX3_isColonAhead 2 (some .boolean) ∈ gT := List.mem_filter.mpr ⟨List.mem_of_getElem? (i := 732) (by decide +kernel), rfl⟩
theorem mw_733 : Cond.methodLink RX3 34 yX3_readTurns ∈ gT := List.mem_filter.mpr ⟨List.mem_of_getElem? (i := 733) (by decide +kernel), rfl⟩
theorem mw_735 : Cond.instanceMethod yX3_readTurns ∈ gT := List.mem_filter.mpr ⟨List.mem_of_getElem? (i := 735) (by decide +kernel), rfl⟩
theorem mw_736 : Cond.code yX3_readTurns cX3_readTurns 3 (some .boolean) ∈ gT := List.mem_filter.mpr ⟨List.mem_of_getElem? (i := 736) (by decide +kernel), rfl⟩
theorem mw_737 : Cond.methodLink RX3 23 yX3_look ∈ gT := List.mem_filter.mpr ⟨List.mem_of_getElem? (i := 737) (by decide +kernel), rfl⟩
theorem mw_739 : Cond.instanceMethod yX3_look ∈ gT := List.mem_filter.mpr ⟨List.mem_of_getElem? (i := 739) (by decide +kernel), rfl⟩
theorem mw_740 : Cond.code yX3_look cX3_look 1 (some .int) ∈ gT := List.mem_filter.mpr ⟨List.mem_of_getElem? (i := 740) (by decide +kernel), rfl⟩
theorem mw_741 : Cond.methodLink RX3 37 yX3_readSign ∈ gT := List.mem_filter.mpr ⟨List.mem_of_getElem? (i := 741) (by decide +kernel), rfl⟩
theorem mw_743 : Cond.instanceMethod yX3_readSign ∈ gT := List.mem_filter.mpr ⟨List.mem_of_getElem? (i := 743) (by decide +kernel), rfl⟩
theorem mw_744 : Cond.code yX3_readSign cX3_readSign 1 (some .boolean) ∈ gT := List.mem_filter.mpr ⟨List.mem_of_getElem? (i := 744) (by decide +kernel), rfl⟩
theorem mw_745 : Cond.methodLink RX3 49 yX3_readFigure ∈ gT := List.mem_filter.mpr ⟨List.mem_of_getElem? (i := 745) (by decide +kernel), rfl⟩
theorem mw_747 : Cond.instanceMethod yX3_readFigure ∈ gT := List.mem_filter.mpr ⟨List.mem_of_getElem? (i := 747) (by decide +kernel), rfl⟩
theorem mw_748 : Cond.code yX3_readFigure cX3_readFigure 3 (some .boolean) ∈ gT := List.mem_filter.mpr ⟨List.mem_of_getElem? (i := 748) (by decide +kernel), rfl⟩
theorem mw_749 : Cond.methodLinkNest RX3 64 yX6_isSign RX6 ∈ lw_tbl := List.mem_of_getElem? (i := 749) (by decide +kernel)
theorem mw_750 : Cond.methodLink RX3 40 yX3_readOff ∈ gT := List.mem_filter.mpr ⟨List.mem_of_getElem? (i := 750) (by decide +kernel), rfl⟩
theorem mw_752 : Cond.instanceMethod yX3_readOff ∈ gT := List.mem_filter.mpr ⟨List.mem_of_getElem? (i := 752) (by decide +kernel), rfl⟩
theorem mw_753 : Cond.code yX3_readOff cX3_readOff 2 (some .boolean) ∈ gT := List.mem_filter.mpr ⟨List.mem_of_getElem? (i := 753) (by decide +kernel), rfl⟩
theorem mw_754 : Cond.methodLinkNest RX3 71 yX6_isOff RX6 ∈ lw_tbl := List.mem_of_getElem? (i := 754) (by decide +kernel)
theorem mw_755 : Cond.methodLink RX3 43 yX3_endOne ∈ gT := List.mem_filter.mpr ⟨List.mem_of_getElem? (i := 755) (by decide +kernel), rfl⟩
theorem mw_757 : Cond.instanceMethod yX3_endOne ∈ gT := List.mem_filter.mpr ⟨List.mem_of_getElem? (i := 757) (by decide +kernel), rfl⟩
theorem mw_758 : Cond.code yX3_endOne cX3_endOne 3 (some .boolean) ∈ gT := List.mem_filter.mpr ⟨List.mem_of_getElem? (i := 758) (by decide +kernel), rfl⟩
theorem mw_759 : Cond.methodLinkNest RX3 75 yX0_gather RX6 ∈ lw_tbl := List.mem_of_getElem? (i := 759) (by decide +kernel)
theorem mw_760 : Cond.methodLinkNest RX3 87 yX2_putFamily RX6 ∈ lw_tbl := List.mem_of_getElem? (i := 760) (by decide +kernel)
theorem mw_761 : Cond.methodLink RL 104 yX6_back ∈ gT := List.mem_filter.mpr ⟨List.mem_of_getElem? (i := 761) (by decide +kernel), rfl⟩
theorem mw_762 : Cond.instanceMethod yX6_back ∈ gT := List.mem_filter.mpr ⟨List.mem_of_getElem? (i := 762) (by decide +kernel), rfl⟩
theorem mw_763 : Cond.selects RX6 yX6_back yX6_back ∈ gT := List.mem_filter.mpr ⟨List.mem_of_getElem? (i := 763) (by decide +kernel), rfl⟩
theorem mw_764 : Cond.code yX6_back cX6_back 1 (some .int) ∈ gT := List.mem_filter.mpr ⟨List.mem_of_getElem? (i := 764) (by decide +kernel), rfl⟩
theorem mw_765 : Cond.methodLinkNest RX6 229 yX5_takeBack RX6 ∈ lw_tbl := List.mem_of_getElem? (i := 765) (by decide +kernel)
theorem mw_767 : Cond.instanceMethod yX5_takeBack ∈ gT := List.mem_filter.mpr ⟨List.mem_of_getElem? (i := 767) (by decide +kernel), rfl⟩
theorem mw_768 : Cond.code yX5_takeBack cX5_takeBack 2 none ∈ gT := List.mem_filter.mpr ⟨List.mem_of_getElem? (i := 768) (by decide +kernel), rfl⟩
theorem mw_769 : Cond.methodLink RL 108 yX6_told ∈ gT := List.mem_filter.mpr ⟨List.mem_of_getElem? (i := 769) (by decide +kernel), rfl⟩
theorem mw_770 : Cond.instanceMethod yX6_told ∈ gT := List.mem_filter.mpr ⟨List.mem_of_getElem? (i := 770) (by decide +kernel), rfl⟩
theorem mw_771 : Cond.selects RX6 yX6_told yX6_told ∈ gT := List.mem_filter.mpr ⟨List.mem_of_getElem? (i := 771) (by decide +kernel), rfl⟩
theorem mw_772 : Cond.code yX6_told cX6_told 2 (some .int) ∈ gT := List.mem_filter.mpr ⟨List.mem_of_getElem? (i := 772) (by decide +kernel), rfl⟩
theorem mw_773 : Cond.methodLink RX6 235 yX6_howMany ∈ gT := List.mem_filter.mpr ⟨List.mem_of_getElem? (i := 773) (by decide +kernel), rfl⟩
theorem mw_775 : Cond.instanceMethod yX6_howMany ∈ gT := List.mem_filter.mpr ⟨List.mem_of_getElem? (i := 775) (by decide +kernel), rfl⟩
theorem mw_776 : Cond.code yX6_howMany cX6_howMany 2 (some .int) ∈ gT := List.mem_filter.mpr ⟨List.mem_of_getElem? (i := 776) (by decide +kernel), rfl⟩
theorem mw_777 : Cond.methodLink RL 112 yX6_digest ∈ gT := List.mem_filter.mpr ⟨List.mem_of_getElem? (i := 777) (by decide +kernel), rfl⟩
theorem mw_778 : Cond.instanceMethod yX6_digest ∈ gT := List.mem_filter.mpr ⟨List.mem_of_getElem? (i := 778) (by decide +kernel), rfl⟩
theorem mw_779 : Cond.selects RX6 yX6_digest yX6_digest ∈ gT := List.mem_filter.mpr ⟨List.mem_of_getElem? (i := 779) (by decide +kernel), rfl⟩
theorem mw_780 : Cond.code yX6_digest cX6_digest 6 (some .long) ∈ gT := List.mem_filter.mpr ⟨List.mem_of_getElem? (i := 780) (by decide +kernel), rfl⟩
theorem mw_781 : Cond.constantLong RX6 238 (2179) ∈ gT := List.mem_filter.mpr ⟨List.mem_of_getElem? (i := 781) (by decide +kernel), rfl⟩
theorem mw_782 : Cond.methodLinkNest RX6 242 yX4_addCornersTo RX6 ∈ lw_tbl := List.mem_of_getElem? (i := 782) (by decide +kernel)
theorem mw_784 : Cond.instanceMethod yX4_addCornersTo ∈ gT := List.mem_filter.mpr ⟨List.mem_of_getElem? (i := 784) (by decide +kernel), rfl⟩
theorem mw_785 : Cond.code yX4_addCornersTo cX4_addCornersTo 9 (some .long) ∈ gT := List.mem_filter.mpr ⟨List.mem_of_getElem? (i := 785) (by decide +kernel), rfl⟩
theorem mw_786 : Cond.methodLink RX4 160 yX4_coordinate ∈ gT := List.mem_filter.mpr ⟨List.mem_of_getElem? (i := 786) (by decide +kernel), rfl⟩
theorem mw_787 : Cond.constantLong RX4 163 (31) ∈ gT := List.mem_filter.mpr ⟨List.mem_of_getElem? (i := 787) (by decide +kernel), rfl⟩
theorem mw_790 : Cond.methodLink RL 12 yX7_init ∈ gT := List.mem_filter.mpr ⟨List.mem_of_getElem? (i := 790) (by decide +kernel), rfl⟩
theorem mw_791 : Cond.instanceMethod yX7_init ∈ gT := List.mem_filter.mpr ⟨List.mem_of_getElem? (i := 791) (by decide +kernel), rfl⟩
theorem mw_792 : Cond.code yX7_init cX7_init 3 none ∈ gT := List.mem_filter.mpr ⟨List.mem_of_getElem? (i := 792) (by decide +kernel), rfl⟩
theorem mw_793 : Cond.methodLink RX7 1 objectInit ∈ gT := List.mem_filter.mpr ⟨List.mem_of_getElem? (i := 793) (by decide +kernel), rfl⟩
theorem mw_794 : Cond.fieldLink RX7 7 (TX7 0).1 (TX7 0).2.1 (TX7 0).2.2.1 ∈ gT := List.mem_filter.mpr ⟨List.mem_of_getElem? (i := 794) (by decide +kernel), rfl⟩
theorem mw_795 : Cond.fieldLink RX7 13 (TX7 1).1 (TX7 1).2.1 (TX7 1).2.2.1 ∈ gT := List.mem_filter.mpr ⟨List.mem_of_getElem? (i := 795) (by decide +kernel), rfl⟩
theorem mw_796 : Cond.fieldLink RX7 49 (TX7 2).1 (TX7 2).2.1 (TX7 2).2.2.1 ∈ gT := List.mem_filter.mpr ⟨List.mem_of_getElem? (i := 796) (by decide +kernel), rfl⟩
theorem mw_797 : Cond.fieldLink RX7 16 (TX7 3).1 (TX7 3).2.1 (TX7 3).2.2.1 ∈ gT := List.mem_filter.mpr ⟨List.mem_of_getElem? (i := 797) (by decide +kernel), rfl⟩
theorem mw_798 : Cond.fieldLink RX7 19 (TX7 4).1 (TX7 4).2.1 (TX7 4).2.2.1 ∈ gT := List.mem_filter.mpr ⟨List.mem_of_getElem? (i := 798) (by decide +kernel), rfl⟩
theorem mw_799 : Cond.fieldLink RX7 22 (TX7 5).1 (TX7 5).2.1 (TX7 5).2.2.1 ∈ gT := List.mem_filter.mpr ⟨List.mem_of_getElem? (i := 799) (by decide +kernel), rfl⟩
theorem mw_800 : Cond.fieldLink RX7 193 (TX7 6).1 (TX7 6).2.1 (TX7 6).2.2.1 ∈ gT := List.mem_filter.mpr ⟨List.mem_of_getElem? (i := 800) (by decide +kernel), rfl⟩
theorem mw_801 : Cond.fieldLink RX7 196 (TX7 7).1 (TX7 7).2.1 (TX7 7).2.2.1 ∈ gT := List.mem_filter.mpr ⟨List.mem_of_getElem? (i := 801) (by decide +kernel), rfl⟩
theorem mw_802 : Cond.fieldLink RX7 172 (TX7 8).1 (TX7 8).2.1 (TX7 8).2.2.1 ∈ gT := List.mem_filter.mpr ⟨List.mem_of_getElem? (i := 802) (by decide +kernel), rfl⟩
theorem mw_803 : Cond.fieldLink RX7 25 (TX7 9).1 (TX7 9).2.1 (TX7 9).2.2.1 ∈ gT := List.mem_filter.mpr ⟨List.mem_of_getElem? (i := 803) (by decide +kernel), rfl⟩
theorem mw_804 : Cond.fieldLink RX7 29 (TX7 10).1 (TX7 10).2.1 (TX7 10).2.2.1 ∈ gT := List.mem_filter.mpr ⟨List.mem_of_getElem? (i := 804) (by decide +kernel), rfl⟩
theorem mw_805 : Cond.fieldLink RX7 114 (TX7 11).1 (TX7 11).2.1 (TX7 11).2.2.1 ∈ gT := List.mem_filter.mpr ⟨List.mem_of_getElem? (i := 805) (by decide +kernel), rfl⟩
theorem mw_806 : Cond.fieldLink RX7 32 (TX7 12).1 (TX7 12).2.1 (TX7 12).2.2.1 ∈ gT := List.mem_filter.mpr ⟨List.mem_of_getElem? (i := 806) (by decide +kernel), rfl⟩
theorem mw_807 : Cond.fieldLink RX7 36 (TX7 13).1 (TX7 13).2.1 (TX7 13).2.2.1 ∈ gT := List.mem_filter.mpr ⟨List.mem_of_getElem? (i := 807) (by decide +kernel), rfl⟩
theorem mw_808 : Cond.fieldLink RX7 39 (TX7 14).1 (TX7 14).2.1 (TX7 14).2.2.1 ∈ gT := List.mem_filter.mpr ⟨List.mem_of_getElem? (i := 808) (by decide +kernel), rfl⟩
theorem mw_809 : Cond.fieldLink RX7 42 (TX7 15).1 (TX7 15).2.1 (TX7 15).2.2.1 ∈ gT := List.mem_filter.mpr ⟨List.mem_of_getElem? (i := 809) (by decide +kernel), rfl⟩
theorem mw_844 : Cond.methodLink RL 17 yX7_plane ∈ gT := List.mem_filter.mpr ⟨List.mem_of_getElem? (i := 844) (by decide +kernel), rfl⟩
theorem mw_845 : Cond.instanceMethod yX7_plane ∈ gT := List.mem_filter.mpr ⟨List.mem_of_getElem? (i := 845) (by decide +kernel), rfl⟩
theorem mw_846 : Cond.selects RX7 yX7_plane yX7_plane ∈ gT := List.mem_filter.mpr ⟨List.mem_of_getElem? (i := 846) (by decide +kernel), rfl⟩
theorem mw_847 : Cond.code yX7_plane cX7_plane 5 (some .int) ∈ gT := List.mem_filter.mpr ⟨List.mem_of_getElem? (i := 847) (by decide +kernel), rfl⟩
theorem mw_848 : Cond.methodLink RX7 53 yX7_isSign ∈ gT := List.mem_filter.mpr ⟨List.mem_of_getElem? (i := 848) (by decide +kernel), rfl⟩
theorem mw_849 : Cond.static yX7_isSign ∈ gT := List.mem_filter.mpr ⟨List.mem_of_getElem? (i := 849) (by decide +kernel), rfl⟩
theorem mw_850 : Cond.code yX7_isSign cX7_isSign 3 (some .boolean) ∈ gT := List.mem_filter.mpr ⟨List.mem_of_getElem? (i := 850) (by decide +kernel), rfl⟩
theorem mw_851 : Cond.methodLink RX7 45 yX7_in ∈ gT := List.mem_filter.mpr ⟨List.mem_of_getElem? (i := 851) (by decide +kernel), rfl⟩
theorem mw_852 : Cond.static yX7_in ∈ gT := List.mem_filter.mpr ⟨List.mem_of_getElem? (i := 852) (by decide +kernel), rfl⟩
theorem mw_853 : Cond.code yX7_in cX7_in 3 (some .boolean) ∈ gT := List.mem_filter.mpr ⟨List.mem_of_getElem? (i := 853) (by decide +kernel), rfl⟩
theorem mw_854 : Cond.methodLink RX7 56 yX7_refuses ∈ gT := List.mem_filter.mpr ⟨List.mem_of_getElem? (i := 854) (by decide +kernel), rfl⟩
theorem mw_856 : Cond.instanceMethod yX7_refuses ∈ gT := List.mem_filter.mpr ⟨List.mem_of_getElem? (i := 856) (by decide +kernel), rfl⟩
theorem mw_857 : Cond.code yX7_refuses cX7_refuses 2 (some .int) ∈ gT := List.mem_filter.mpr ⟨List.mem_of_getElem? (i := 857) (by decide +kernel), rfl⟩
theorem mw_858 : Cond.methodLink RX7 60 yX7_aside ∈ gT := List.mem_filter.mpr ⟨List.mem_of_getElem? (i := 858) (by decide +kernel), rfl⟩
theorem mw_860 : Cond.instanceMethod yX7_aside ∈ gT := List.mem_filter.mpr ⟨List.mem_of_getElem? (i := 860) (by decide +kernel), rfl⟩
theorem mw_861 : Cond.code yX7_aside cX7_aside 2 none ∈ gT := List.mem_filter.mpr ⟨List.mem_of_getElem? (i := 861) (by decide +kernel), rfl⟩
theorem mw_862 : Cond.methodLink RX7 63 yX7_keeps ∈ gT := List.mem_filter.mpr ⟨List.mem_of_getElem? (i := 862) (by decide +kernel), rfl⟩
theorem mw_864 : Cond.instanceMethod yX7_keeps ∈ gT := List.mem_filter.mpr ⟨List.mem_of_getElem? (i := 864) (by decide +kernel), rfl⟩
theorem mw_865 : Cond.code yX7_keeps cX7_keeps 2 none ∈ gT := List.mem_filter.mpr ⟨List.mem_of_getElem? (i := 865) (by decide +kernel), rfl⟩
theorem mw_866 : Cond.methodLink RX7 66 yX7_comes ∈ gT := List.mem_filter.mpr ⟨List.mem_of_getElem? (i := 866) (by decide +kernel), rfl⟩
theorem mw_868 : Cond.instanceMethod yX7_comes ∈ gT := List.mem_filter.mpr ⟨List.mem_of_getElem? (i := 868) (by decide +kernel), rfl⟩
theorem mw_869 : Cond.code yX7_comes cX7_comes 6 none ∈ gT := List.mem_filter.mpr ⟨List.mem_of_getElem? (i := 869) (by decide +kernel), rfl⟩
theorem mw_870 : Cond.methodLink RL 22 yX7_family ∈ gT := List.mem_filter.mpr ⟨List.mem_of_getElem? (i := 870) (by decide +kernel), rfl⟩
theorem mw_871 : Cond.instanceMethod yX7_family ∈ gT := List.mem_filter.mpr ⟨List.mem_of_getElem? (i := 871) (by decide +kernel), rfl⟩
theorem mw_872 : Cond.selects RX7 yX7_family yX7_family ∈ gT := List.mem_filter.mpr ⟨List.mem_of_getElem? (i := 872) (by decide +kernel), rfl⟩
theorem mw_873 : Cond.code yX7_family cX7_family 7 (some .int) ∈ gT := List.mem_filter.mpr ⟨List.mem_of_getElem? (i := 873) (by decide +kernel), rfl⟩
theorem mw_874 : Cond.methodLink RX7 73 yX7_laysFamily ∈ gT := List.mem_filter.mpr ⟨List.mem_of_getElem? (i := 874) (by decide +kernel), rfl⟩
theorem mw_876 : Cond.instanceMethod yX7_laysFamily ∈ gT := List.mem_filter.mpr ⟨List.mem_of_getElem? (i := 876) (by decide +kernel), rfl⟩
theorem mw_877 : Cond.code yX7_laysFamily cX7_laysFamily 10 (some .int) ∈ gT := List.mem_filter.mpr ⟨List.mem_of_getElem? (i := 877) (by decide +kernel), rfl⟩
theorem mw_878 : Cond.methodLink RX7 70 yX7_turns ∈ gT := List.mem_filter.mpr ⟨List.mem_of_getElem? (i := 878) (by decide +kernel), rfl⟩
theorem mw_880 : Cond.instanceMethod yX7_turns ∈ gT := List.mem_filter.mpr ⟨List.mem_of_getElem? (i := 880) (by decide +kernel), rfl⟩
theorem mw_881 : Cond.code yX7_turns cX7_turns 5 none ∈ gT := List.mem_filter.mpr ⟨List.mem_of_getElem? (i := 881) (by decide +kernel), rfl⟩
theorem mw_882 : Cond.methodLink RX7 77 yX7_familyComes ∈ gT := List.mem_filter.mpr ⟨List.mem_of_getElem? (i := 882) (by decide +kernel), rfl⟩
theorem mw_884 : Cond.instanceMethod yX7_familyComes ∈ gT := List.mem_filter.mpr ⟨List.mem_of_getElem? (i := 884) (by decide +kernel), rfl⟩
theorem mw_885 : Cond.code yX7_familyComes cX7_familyComes 3 none ∈ gT := List.mem_filter.mpr ⟨List.mem_of_getElem? (i := 885) (by decide +kernel), rfl⟩
theorem mw_886 : Cond.methodLink RL 27 yX7_off ∈ gT := List.mem_filter.mpr ⟨List.mem_of_getElem? (i := 886) (by decide +kernel), rfl⟩
theorem mw_887 : Cond.instanceMethod yX7_off ∈ gT := List.mem_filter.mpr ⟨List.mem_of_getElem? (i := 887) (by decide +kernel), rfl⟩
theorem mw_888 : Cond.selects RX7 yX7_off yX7_off ∈ gT := List.mem_filter.mpr ⟨List.mem_of_getElem? (i := 888) (by decide +kernel), rfl⟩
theorem mw_889 : Cond.code yX7_off cX7_off 4 (some .int) ∈ gT := List.mem_filter.mpr ⟨List.mem_of_getElem? (i := 889) (by decide +kernel), rfl⟩
theorem mw_890 : Cond.methodLink RX7 81 yX7_isPlane ∈ gT := List.mem_filter.mpr ⟨List.mem_of_getElem? (i := 890) (by decide +kernel), rfl⟩
theorem mw_892 : Cond.instanceMethod yX7_isPlane ∈ gT := List.mem_filter.mpr ⟨List.mem_of_getElem? (i := 892) (by decide +kernel), rfl⟩
theorem mw_893 : Cond.code yX7_isPlane cX7_isPlane 2 (some .boolean) ∈ gT := List.mem_filter.mpr ⟨List.mem_of_getElem? (i := 893) (by decide +kernel), rfl⟩
theorem mw_894 : Cond.methodLink RX7 85 yX7_get ∈ gT := List.mem_filter.mpr ⟨List.mem_of_getElem? (i := 894) (by decide +kernel), rfl⟩
theorem mw_896 : Cond.instanceMethod yX7_get ∈ gT := List.mem_filter.mpr ⟨List.mem_of_getElem? (i := 896) (by decide +kernel), rfl⟩
theorem mw_897 : Cond.code yX7_get cX7_get 3 (some .int) ∈ gT := List.mem_filter.mpr ⟨List.mem_of_getElem? (i := 897) (by decide +kernel), rfl⟩
theorem mw_898 : Cond.methodLink RL 32 yX7_drop ∈ gT := List.mem_filter.mpr ⟨List.mem_of_getElem? (i := 898) (by decide +kernel), rfl⟩
theorem mw_899 : Cond.instanceMethod yX7_drop ∈ gT := List.mem_filter.mpr ⟨List.mem_of_getElem? (i := 899) (by decide +kernel), rfl⟩
theorem mw_900 : Cond.selects RX7 yX7_drop yX7_drop ∈ gT := List.mem_filter.mpr ⟨List.mem_of_getElem? (i := 900) (by decide +kernel), rfl⟩
theorem mw_901 : Cond.code yX7_drop cX7_drop 2 (some .int) ∈ gT := List.mem_filter.mpr ⟨List.mem_of_getElem? (i := 901) (by decide +kernel), rfl⟩
theorem mw_902 : Cond.methodLink RX7 89 yX7_goes ∈ gT := List.mem_filter.mpr ⟨List.mem_of_getElem? (i := 902) (by decide +kernel), rfl⟩
theorem mw_904 : Cond.instanceMethod yX7_goes ∈ gT := List.mem_filter.mpr ⟨List.mem_of_getElem? (i := 904) (by decide +kernel), rfl⟩
theorem mw_905 : Cond.code yX7_goes cX7_goes 3 none ∈ gT := List.mem_filter.mpr ⟨List.mem_of_getElem? (i := 905) (by decide +kernel), rfl⟩
theorem mw_906 : Cond.methodLink RL 37 yX7_anew ∈ gT := List.mem_filter.mpr ⟨List.mem_of_getElem? (i := 906) (by decide +kernel), rfl⟩
theorem mw_907 : Cond.instanceMethod yX7_anew ∈ gT := List.mem_filter.mpr ⟨List.mem_of_getElem? (i := 907) (by decide +kernel), rfl⟩
theorem mw_908 : Cond.selects RX7 yX7_anew yX7_anew ∈ gT := List.mem_filter.mpr ⟨List.mem_of_getElem? (i := 908) (by decide +kernel), rfl⟩
theorem mw_909 : Cond.code yX7_anew cX7_anew 3 (some .int) ∈ gT := List.mem_filter.mpr ⟨List.mem_of_getElem? (i := 909) (by decide +kernel), rfl⟩
theorem mw_910 : Cond.methodLink RL 41 yX7_draw ∈ gT := List.mem_filter.mpr ⟨List.mem_of_getElem? (i := 910) (by decide +kernel), rfl⟩
theorem mw_911 : Cond.instanceMethod yX7_draw ∈ gT := List.mem_filter.mpr ⟨List.mem_of_getElem? (i := 911) (by decide +kernel), rfl⟩
theorem mw_912 : Cond.selects RX7 yX7_draw yX7_draw ∈ gT := List.mem_filter.mpr ⟨List.mem_of_getElem? (i := 912) (by decide +kernel), rfl⟩
theorem mw_913 : Cond.code yX7_draw cX7_draw 9 (some .int) ∈ gT := List.mem_filter.mpr ⟨List.mem_of_getElem? (i := 913) (by decide +kernel), rfl⟩
theorem mw_914 : Cond.constant RX7 92 (999999) ∈ gT := List.mem_filter.mpr ⟨List.mem_of_getElem? (i := 914) (by decide +kernel), rfl⟩
theorem mw_915 : Cond.constantLong RX7 93 (1103515245) ∈ gT := List.mem_filter.mpr ⟨List.mem_of_getElem? (i := 915) (by decide +kernel), rfl⟩
theorem mw_916 : Cond.constantLong RX7 95 (12345) ∈ gT := List.mem_filter.mpr ⟨List.mem_of_getElem? (i := 916) (by decide +kernel), rfl⟩
theorem mw_917 : Cond.constantLong RX7 97 (2147483648) ∈ gT := List.mem_filter.mpr ⟨List.mem_of_getElem? (i := 917) (by decide +kernel), rfl⟩
theorem mw_918 : Cond.constantLong RX7 99 (65536) ∈ gT := List.mem_filter.mpr ⟨List.mem_of_getElem? (i := 918) (by decide +kernel), rfl⟩
theorem mw_919 : Cond.constantLong RX7 101 (7) ∈ gT := List.mem_filter.mpr ⟨List.mem_of_getElem? (i := 919) (by decide +kernel), rfl⟩
theorem mw_920 : Cond.constantLong RX7 103 (1024) ∈ gT := List.mem_filter.mpr ⟨List.mem_of_getElem? (i := 920) (by decide +kernel), rfl⟩
theorem mw_921 : Cond.constantLong RX7 105 (32768) ∈ gT := List.mem_filter.mpr ⟨List.mem_of_getElem? (i := 921) (by decide +kernel), rfl⟩
theorem mw_922 : Cond.constantLong RX7 107 (512) ∈ gT := List.mem_filter.mpr ⟨List.mem_of_getElem? (i := 922) (by decide +kernel), rfl⟩
theorem mw_923 : Cond.constantLong RX7 109 (31) ∈ gT := List.mem_filter.mpr ⟨List.mem_of_getElem? (i := 923) (by decide +kernel), rfl⟩
theorem mw_924 : Cond.methodLink RX7 111 yX7_lays ∈ gT := List.mem_filter.mpr ⟨List.mem_of_getElem? (i := 924) (by decide +kernel), rfl⟩
theorem mw_926 : Cond.instanceMethod yX7_lays ∈ gT := List.mem_filter.mpr ⟨List.mem_of_getElem? (i := 926) (by decide +kernel), rfl⟩
theorem mw_927 : Cond.code yX7_lays cX7_lays 5 none ∈ gT := List.mem_filter.mpr ⟨List.mem_of_getElem? (i := 927) (by decide +kernel), rfl⟩
theorem mw_928 : Cond.methodLink RX7 117 yX7_determinant ∈ gT := List.mem_filter.mpr ⟨List.mem_of_getElem? (i := 928) (by decide +kernel), rfl⟩
theorem mw_930 : Cond.instanceMethod yX7_determinant ∈ gT := List.mem_filter.mpr ⟨List.mem_of_getElem? (i := 930) (by decide +kernel), rfl⟩
theorem mw_931 : Cond.code yX7_determinant cX7_determinant 12 (some .int) ∈ gT := List.mem_filter.mpr ⟨List.mem_of_getElem? (i := 931) (by decide +kernel), rfl⟩
theorem mw_932 : Cond.methodLink RX7 138 yX7_meeting ∈ gT := List.mem_filter.mpr ⟨List.mem_of_getElem? (i := 932) (by decide +kernel), rfl⟩
theorem mw_934 : Cond.instanceMethod yX7_meeting ∈ gT := List.mem_filter.mpr ⟨List.mem_of_getElem? (i := 934) (by decide +kernel), rfl⟩
theorem mw_935 : Cond.code yX7_meeting cX7_meeting 13 none ∈ gT := List.mem_filter.mpr ⟨List.mem_of_getElem? (i := 935) (by decide +kernel), rfl⟩
theorem mw_936 : Cond.methodLink RX7 120 yX7_common ∈ gT := List.mem_filter.mpr ⟨List.mem_of_getElem? (i := 936) (by decide +kernel), rfl⟩
theorem mw_937 : Cond.static yX7_common ∈ gT := List.mem_filter.mpr ⟨List.mem_of_getElem? (i := 937) (by decide +kernel), rfl⟩
theorem mw_938 : Cond.code yX7_common cX7_common 5 (some .int) ∈ gT := List.mem_filter.mpr ⟨List.mem_of_getElem? (i := 938) (by decide +kernel), rfl⟩
theorem mw_939 : Cond.methodLink RX7 123 yX7_far ∈ gT := List.mem_filter.mpr ⟨List.mem_of_getElem? (i := 939) (by decide +kernel), rfl⟩
theorem mw_941 : Cond.instanceMethod yX7_far ∈ gT := List.mem_filter.mpr ⟨List.mem_of_getElem? (i := 941) (by decide +kernel), rfl⟩
theorem mw_942 : Cond.code yX7_far cX7_far 5 (some .int) ∈ gT := List.mem_filter.mpr ⟨List.mem_of_getElem? (i := 942) (by decide +kernel), rfl⟩
theorem mw_943 : Cond.methodLink RX7 126 yX7_isCorner ∈ gT := List.mem_filter.mpr ⟨List.mem_of_getElem? (i := 943) (by decide +kernel), rfl⟩
theorem mw_945 : Cond.instanceMethod yX7_isCorner ∈ gT := List.mem_filter.mpr ⟨List.mem_of_getElem? (i := 945) (by decide +kernel), rfl⟩
theorem mw_946 : Cond.code yX7_isCorner cX7_isCorner 6 (some .boolean) ∈ gT := List.mem_filter.mpr ⟨List.mem_of_getElem? (i := 946) (by decide +kernel), rfl⟩
theorem mw_947 : Cond.methodLink RX7 130 yX7_isAhead ∈ gT := List.mem_filter.mpr ⟨List.mem_of_getElem? (i := 947) (by decide +kernel), rfl⟩
theorem mw_949 : Cond.instanceMethod yX7_isAhead ∈ gT := List.mem_filter.mpr ⟨List.mem_of_getElem? (i := 949) (by decide +kernel), rfl⟩
theorem mw_950 : Cond.code yX7_isAhead cX7_isAhead 9 (some .boolean) ∈ gT := List.mem_filter.mpr ⟨List.mem_of_getElem? (i := 950) (by decide +kernel), rfl⟩
theorem mw_951 : Cond.methodLink RX7 141 yX7_cornersOn ∈ gT := List.mem_filter.mpr ⟨List.mem_of_getElem? (i := 951) (by decide +kernel), rfl⟩
theorem mw_953 : Cond.instanceMethod yX7_cornersOn ∈ gT := List.mem_filter.mpr ⟨List.mem_of_getElem? (i := 953) (by decide +kernel), rfl⟩
theorem mw_954 : Cond.code yX7_cornersOn cX7_cornersOn 4 (some .int) ∈ gT := List.mem_filter.mpr ⟨List.mem_of_getElem? (i := 954) (by decide +kernel), rfl⟩
theorem mw_955 : Cond.methodLink RX7 134 yX7_isOn ∈ gT := List.mem_filter.mpr ⟨List.mem_of_getElem? (i := 955) (by decide +kernel), rfl⟩
theorem mw_957 : Cond.instanceMethod yX7_isOn ∈ gT := List.mem_filter.mpr ⟨List.mem_of_getElem? (i := 957) (by decide +kernel), rfl⟩
theorem mw_958 : Cond.code yX7_isOn cX7_isOn 3 (some .boolean) ∈ gT := List.mem_filter.mpr ⟨List.mem_of_getElem? (i := 958) (by decide +kernel), rfl⟩
theorem mw_959 : Cond.methodLink RX7 144 yX7_isSame ∈ gT := List.mem_filter.mpr ⟨List.mem_of_getElem? (i := 959) (by decide +kernel), rfl⟩
theorem mw_961 : Cond.instanceMethod yX7_isSame ∈ gT := List.mem_filter.mpr ⟨List.mem_of_getElem? (i := 961) (by decide +kernel), rfl⟩
theorem mw_962 : Cond.code yX7_isSame cX7_isSame 5 (some .boolean) ∈ gT := List.mem_filter.mpr ⟨List.mem_of_getElem? (i := 962) (by decide +kernel), rfl⟩
theorem mw_963 : Cond.methodLink RL 45 yX7_of ∈ gT := List.mem_filter.mpr ⟨List.mem_of_getElem? (i := 963) (by decide +kernel), rfl⟩
theorem mw_964 : Cond.instanceMethod yX7_of ∈ gT := List.mem_filter.mpr ⟨List.mem_of_getElem? (i := 964) (by decide +kernel), rfl⟩
theorem mw_965 : Cond.selects RX7 yX7_of yX7_of ∈ gT := List.mem_filter.mpr ⟨List.mem_of_getElem? (i := 965) (by decide +kernel), rfl⟩
theorem mw_966 : Cond.code yX7_of cX7_of 3 (some .int) ∈ gT := List.mem_filter.mpr ⟨List.mem_of_getElem? (i := 966) (by decide +kernel), rfl⟩
theorem mw_967 : Cond.methodLink RX7 153 yX7_bad ∈ gT := List.mem_filter.mpr ⟨List.mem_of_getElem? (i := 967) (by decide +kernel), rfl⟩
theorem mw_969 : Cond.instanceMethod yX7_bad ∈ gT := List.mem_filter.mpr ⟨List.mem_of_getElem? (i := 969) (by decide +kernel), rfl⟩
theorem mw_970 : Cond.code yX7_bad cX7_bad 2 (some .int) ∈ gT := List.mem_filter.mpr ⟨List.mem_of_getElem? (i := 970) (by decide +kernel), rfl⟩
theorem mw_971 : Cond.methodLink RX7 156 yX7_edgesOf ∈ gT := List.mem_filter.mpr ⟨List.mem_of_getElem? (i := 971) (by decide +kernel), rfl⟩
theorem mw_973 : Cond.instanceMethod yX7_edgesOf ∈ gT := List.mem_filter.mpr ⟨List.mem_of_getElem? (i := 973) (by decide +kernel), rfl⟩
theorem mw_974 : Cond.code yX7_edgesOf cX7_edgesOf 4 (some .int) ∈ gT := List.mem_filter.mpr ⟨List.mem_of_getElem? (i := 974) (by decide +kernel), rfl⟩
theorem mw_975 : Cond.methodLink RX7 150 yX7_isEdge ∈ gT := List.mem_filter.mpr ⟨List.mem_of_getElem? (i := 975) (by decide +kernel), rfl⟩
theorem mw_977 : Cond.instanceMethod yX7_isEdge ∈ gT := List.mem_filter.mpr ⟨List.mem_of_getElem? (i := 977) (by decide +kernel), rfl⟩
theorem mw_978 : Cond.code yX7_isEdge cX7_isEdge 3 (some .boolean) ∈ gT := List.mem_filter.mpr ⟨List.mem_of_getElem? (i := 978) (by decide +kernel), rfl⟩
theorem mw_979 : Cond.methodLink RX7 147 yX7_cornersOnBoth ∈ gT := List.mem_filter.mpr ⟨List.mem_of_getElem? (i := 979) (by decide +kernel), rfl⟩
theorem mw_981 : Cond.instanceMethod yX7_cornersOnBoth ∈ gT := List.mem_filter.mpr ⟨List.mem_of_getElem? (i := 981) (by decide +kernel), rfl⟩
theorem mw_982 : Cond.code yX7_cornersOnBoth cX7_cornersOnBoth 5 (some .int) ∈ gT := List.mem_filter.mpr ⟨List.mem_of_getElem? (i := 982) (by decide +kernel), rfl⟩
theorem mw_983 : Cond.methodLink RL 49 yX7_member ∈ gT := List.mem_filter.mpr ⟨List.mem_of_getElem? (i := 983) (by decide +kernel), rfl⟩
theorem mw_984 : Cond.instanceMethod yX7_member ∈ gT := List.mem_filter.mpr ⟨List.mem_of_getElem? (i := 984) (by decide +kernel), rfl⟩
theorem mw_985 : Cond.selects RX7 yX7_member yX7_member ∈ gT := List.mem_filter.mpr ⟨List.mem_of_getElem? (i := 985) (by decide +kernel), rfl⟩
theorem mw_986 : Cond.code yX7_member cX7_member 9 (some .int) ∈ gT := List.mem_filter.mpr ⟨List.mem_of_getElem? (i := 986) (by decide +kernel), rfl⟩
theorem mw_987 : Cond.methodLink RL 53 yX7_all ∈ gT := List.mem_filter.mpr ⟨List.mem_of_getElem? (i := 987) (by decide +kernel), rfl⟩
theorem mw_988 : Cond.instanceMethod yX7_all ∈ gT := List.mem_filter.mpr ⟨List.mem_of_getElem? (i := 988) (by decide +kernel), rfl⟩
theorem mw_989 : Cond.selects RX7 yX7_all yX7_all ∈ gT := List.mem_filter.mpr ⟨List.mem_of_getElem? (i := 989) (by decide +kernel), rfl⟩
theorem mw_990 : Cond.code yX7_all cX7_all 2 (some .int) ∈ gT := List.mem_filter.mpr ⟨List.mem_of_getElem? (i := 990) (by decide +kernel), rfl⟩
theorem mw_991 : Cond.methodLink RX7 159 yX7_showing ∈ gT := List.mem_filter.mpr ⟨List.mem_of_getElem? (i := 991) (by decide +kernel), rfl⟩
theorem mw_993 : Cond.instanceMethod yX7_showing ∈ gT := List.mem_filter.mpr ⟨List.mem_of_getElem? (i := 993) (by decide +kernel), rfl⟩
theorem mw_994 : Cond.code yX7_showing cX7_showing 3 (some .int) ∈ gT := List.mem_filter.mpr ⟨List.mem_of_getElem? (i := 994) (by decide +kernel), rfl⟩
theorem mw_995 : Cond.methodLink RX7 163 yX7_edges ∈ gT := List.mem_filter.mpr ⟨List.mem_of_getElem? (i := 995) (by decide +kernel), rfl⟩
theorem mw_997 : Cond.instanceMethod yX7_edges ∈ gT := List.mem_filter.mpr ⟨List.mem_of_getElem? (i := 997) (by decide +kernel), rfl⟩
theorem mw_998 : Cond.code yX7_edges cX7_edges 3 (some .int) ∈ gT := List.mem_filter.mpr ⟨List.mem_of_getElem? (i := 998) (by decide +kernel), rfl⟩
theorem mw_999 : Cond.methodLink RX7 166 yX7_mostOn ∈ gT := List.mem_filter.mpr ⟨List.mem_of_getElem? (i := 999) (by decide +kernel), rfl⟩
theorem mw_1001 : Cond.instanceMethod yX7_mostOn ∈ gT := List.mem_filter.mpr ⟨List.mem_of_getElem? (i := 1001) (by decide +kernel), rfl⟩
theorem mw_1002 : Cond.code yX7_mostOn cX7_mostOn 3 (some .int) ∈ gT := List.mem_filter.mpr ⟨List.mem_of_getElem? (i := 1002) (by decide +kernel), rfl⟩
theorem mw_1003 : Cond.methodLink RX7 169 yX7_mostAt ∈ gT := List.mem_filter.mpr ⟨List.mem_of_getElem? (i := 1003) (by decide +kernel), rfl⟩
theorem mw_1005 : Cond.instanceMethod yX7_mostAt ∈ gT := List.mem_filter.mpr ⟨List.mem_of_getElem? (i := 1005) (by decide +kernel), rfl⟩
theorem mw_1006 : Cond.code yX7_mostAt cX7_mostAt 5 (some .int) ∈ gT := List.mem_filter.mpr ⟨List.mem_of_getElem? (i := 1006) (by decide +kernel), rfl⟩
theorem mw_1007 : Cond.methodLink RL 57 yX7_corner ∈ gT := List.mem_filter.mpr ⟨List.mem_of_getElem? (i := 1007) (by decide +kernel), rfl⟩
theorem mw_1008 : Cond.instanceMethod yX7_corner ∈ gT := List.mem_filter.mpr ⟨List.mem_of_getElem? (i := 1008) (by decide +kernel), rfl⟩
theorem mw_1009 : Cond.selects RX7 yX7_corner yX7_corner ∈ gT := List.mem_filter.mpr ⟨List.mem_of_getElem? (i := 1009) (by decide +kernel), rfl⟩
theorem mw_1010 : Cond.code yX7_corner cX7_corner 3 (some .int) ∈ gT := List.mem_filter.mpr ⟨List.mem_of_getElem? (i := 1010) (by decide +kernel), rfl⟩
theorem mw_1011 : Cond.methodLink RX7 175 yX7_fraction ∈ gT := List.mem_filter.mpr ⟨List.mem_of_getElem? (i := 1011) (by decide +kernel), rfl⟩
theorem mw_1013 : Cond.instanceMethod yX7_fraction ∈ gT := List.mem_filter.mpr ⟨List.mem_of_getElem? (i := 1013) (by decide +kernel), rfl⟩
theorem mw_1014 : Cond.code yX7_fraction cX7_fraction 4 none ∈ gT := List.mem_filter.mpr ⟨List.mem_of_getElem? (i := 1014) (by decide +kernel), rfl⟩
theorem mw_1015 : Cond.methodLink RL 61 yX7_meets ∈ gT := List.mem_filter.mpr ⟨List.mem_of_getElem? (i := 1015) (by decide +kernel), rfl⟩
theorem mw_1016 : Cond.instanceMethod yX7_meets ∈ gT := List.mem_filter.mpr ⟨List.mem_of_getElem? (i := 1016) (by decide +kernel), rfl⟩
theorem mw_1017 : Cond.selects RX7 yX7_meets yX7_meets ∈ gT := List.mem_filter.mpr ⟨List.mem_of_getElem? (i := 1017) (by decide +kernel), rfl⟩
theorem mw_1018 : Cond.code yX7_meets cX7_meets 5 (some .int) ∈ gT := List.mem_filter.mpr ⟨List.mem_of_getElem? (i := 1018) (by decide +kernel), rfl⟩
theorem mw_1019 : Cond.methodLink RL 66 yX7_part ∈ gT := List.mem_filter.mpr ⟨List.mem_of_getElem? (i := 1019) (by decide +kernel), rfl⟩
theorem mw_1020 : Cond.instanceMethod yX7_part ∈ gT := List.mem_filter.mpr ⟨List.mem_of_getElem? (i := 1020) (by decide +kernel), rfl⟩
theorem mw_1021 : Cond.selects RX7 yX7_part yX7_part ∈ gT := List.mem_filter.mpr ⟨List.mem_of_getElem? (i := 1021) (by decide +kernel), rfl⟩
theorem mw_1022 : Cond.code yX7_part cX7_part 2 (some .long) ∈ gT := List.mem_filter.mpr ⟨List.mem_of_getElem? (i := 1022) (by decide +kernel), rfl⟩
theorem mw_1023 : Cond.constant RX7 179 (-1000000) ∈ gT := List.mem_filter.mpr ⟨List.mem_of_getElem? (i := 1023) (by decide +kernel), rfl⟩
theorem mw_1024 : Cond.methodLink RL 71 yX7_edge ∈ gT := List.mem_filter.mpr ⟨List.mem_of_getElem? (i := 1024) (by decide +kernel), rfl⟩
theorem mw_1025 : Cond.instanceMethod yX7_edge ∈ gT := List.mem_filter.mpr ⟨List.mem_of_getElem? (i := 1025) (by decide +kernel), rfl⟩
theorem mw_1026 : Cond.selects RX7 yX7_edge yX7_edge ∈ gT := List.mem_filter.mpr ⟨List.mem_of_getElem? (i := 1026) (by decide +kernel), rfl⟩
theorem mw_1027 : Cond.code yX7_edge cX7_edge 8 (some .int) ∈ gT := List.mem_filter.mpr ⟨List.mem_of_getElem? (i := 1027) (by decide +kernel), rfl⟩
theorem mw_1028 : Cond.methodLink RL 75 yX7_reach ∈ gT := List.mem_filter.mpr ⟨List.mem_of_getElem? (i := 1028) (by decide +kernel), rfl⟩
theorem mw_1029 : Cond.instanceMethod yX7_reach ∈ gT := List.mem_filter.mpr ⟨List.mem_of_getElem? (i := 1029) (by decide +kernel), rfl⟩
theorem mw_1030 : Cond.selects RX7 yX7_reach yX7_reach ∈ gT := List.mem_filter.mpr ⟨List.mem_of_getElem? (i := 1030) (by decide +kernel), rfl⟩
theorem mw_1031 : Cond.code yX7_reach cX7_reach 7 (some .int) ∈ gT := List.mem_filter.mpr ⟨List.mem_of_getElem? (i := 1031) (by decide +kernel), rfl⟩
theorem mw_1032 : Cond.methodLink RX7 180 yX7_farthest ∈ gT := List.mem_filter.mpr ⟨List.mem_of_getElem? (i := 1032) (by decide +kernel), rfl⟩
theorem mw_1034 : Cond.instanceMethod yX7_farthest ∈ gT := List.mem_filter.mpr ⟨List.mem_of_getElem? (i := 1034) (by decide +kernel), rfl⟩
theorem mw_1035 : Cond.code yX7_farthest cX7_farthest 8 (some .int) ∈ gT := List.mem_filter.mpr ⟨List.mem_of_getElem? (i := 1035) (by decide +kernel), rfl⟩
theorem mw_1036 : Cond.methodLink RX7 184 yX7_farOf ∈ gT := List.mem_filter.mpr ⟨List.mem_of_getElem? (i := 1036) (by decide +kernel), rfl⟩
theorem mw_1038 : Cond.instanceMethod yX7_farOf ∈ gT := List.mem_filter.mpr ⟨List.mem_of_getElem? (i := 1038) (by decide +kernel), rfl⟩
theorem mw_1039 : Cond.code yX7_farOf cX7_farOf 5 (some .int) ∈ gT := List.mem_filter.mpr ⟨List.mem_of_getElem? (i := 1039) (by decide +kernel), rfl⟩
theorem mw_1040 : Cond.methodLink RL 79 yX7_stays ∈ gT := List.mem_filter.mpr ⟨List.mem_of_getElem? (i := 1040) (by decide +kernel), rfl⟩
theorem mw_1041 : Cond.instanceMethod yX7_stays ∈ gT := List.mem_filter.mpr ⟨List.mem_of_getElem? (i := 1041) (by decide +kernel), rfl⟩
theorem mw_1042 : Cond.selects RX7 yX7_stays yX7_stays ∈ gT := List.mem_filter.mpr ⟨List.mem_of_getElem? (i := 1042) (by decide +kernel), rfl⟩
theorem mw_1043 : Cond.code yX7_stays cX7_stays 2 (some .int) ∈ gT := List.mem_filter.mpr ⟨List.mem_of_getElem? (i := 1043) (by decide +kernel), rfl⟩
theorem mw_1044 : Cond.methodLink RX7 187 yX7_isStaying ∈ gT := List.mem_filter.mpr ⟨List.mem_of_getElem? (i := 1044) (by decide +kernel), rfl⟩
theorem mw_1046 : Cond.instanceMethod yX7_isStaying ∈ gT := List.mem_filter.mpr ⟨List.mem_of_getElem? (i := 1046) (by decide +kernel), rfl⟩
theorem mw_1047 : Cond.code yX7_isStaying cX7_isStaying 4 (some .boolean) ∈ gT := List.mem_filter.mpr ⟨List.mem_of_getElem? (i := 1047) (by decide +kernel), rfl⟩
theorem mw_1048 : Cond.methodLink RL 83 yX7_symmetry ∈ gT := List.mem_filter.mpr ⟨List.mem_of_getElem? (i := 1048) (by decide +kernel), rfl⟩
theorem mw_1049 : Cond.instanceMethod yX7_symmetry ∈ gT := List.mem_filter.mpr ⟨List.mem_of_getElem? (i := 1049) (by decide +kernel), rfl⟩
theorem mw_1050 : Cond.selects RX7 yX7_symmetry yX7_symmetry ∈ gT := List.mem_filter.mpr ⟨List.mem_of_getElem? (i := 1050) (by decide +kernel), rfl⟩
theorem mw_1051 : Cond.code yX7_symmetry cX7_symmetry 3 (some .int) ∈ gT := List.mem_filter.mpr ⟨List.mem_of_getElem? (i := 1051) (by decide +kernel), rfl⟩
theorem mw_1052 : Cond.methodLink RL 87 yX7_hides ∈ gT := List.mem_filter.mpr ⟨List.mem_of_getElem? (i := 1052) (by decide +kernel), rfl⟩
theorem mw_1053 : Cond.instanceMethod yX7_hides ∈ gT := List.mem_filter.mpr ⟨List.mem_of_getElem? (i := 1053) (by decide +kernel), rfl⟩
theorem mw_1054 : Cond.selects RX7 yX7_hides yX7_hides ∈ gT := List.mem_filter.mpr ⟨List.mem_of_getElem? (i := 1054) (by decide +kernel), rfl⟩
theorem mw_1055 : Cond.code yX7_hides cX7_hides 11 (some .int) ∈ gT := List.mem_filter.mpr ⟨List.mem_of_getElem? (i := 1055) (by decide +kernel), rfl⟩
theorem mw_1056 : Cond.methodLink RL 91 yX7_spare ∈ gT := List.mem_filter.mpr ⟨List.mem_of_getElem? (i := 1056) (by decide +kernel), rfl⟩
theorem mw_1057 : Cond.instanceMethod yX7_spare ∈ gT := List.mem_filter.mpr ⟨List.mem_of_getElem? (i := 1057) (by decide +kernel), rfl⟩
theorem mw_1058 : Cond.selects RX7 yX7_spare yX7_spare ∈ gT := List.mem_filter.mpr ⟨List.mem_of_getElem? (i := 1058) (by decide +kernel), rfl⟩
theorem mw_1059 : Cond.code yX7_spare cX7_spare 5 (some .int) ∈ gT := List.mem_filter.mpr ⟨List.mem_of_getElem? (i := 1059) (by decide +kernel), rfl⟩
theorem mw_1060 : Cond.methodLink RX7 190 yX7_restores ∈ gT := List.mem_filter.mpr ⟨List.mem_of_getElem? (i := 1060) (by decide +kernel), rfl⟩
theorem mw_1062 : Cond.instanceMethod yX7_restores ∈ gT := List.mem_filter.mpr ⟨List.mem_of_getElem? (i := 1062) (by decide +kernel), rfl⟩
theorem mw_1063 : Cond.code yX7_restores cX7_restores 2 none ∈ gT := List.mem_filter.mpr ⟨List.mem_of_getElem? (i := 1063) (by decide +kernel), rfl⟩
theorem mw_1064 : Cond.methodLink RL 95 yX7_type ∈ gT := List.mem_filter.mpr ⟨List.mem_of_getElem? (i := 1064) (by decide +kernel), rfl⟩
theorem mw_1065 : Cond.instanceMethod yX7_type ∈ gT := List.mem_filter.mpr ⟨List.mem_of_getElem? (i := 1065) (by decide +kernel), rfl⟩
theorem mw_1066 : Cond.selects RX7 yX7_type yX7_type ∈ gT := List.mem_filter.mpr ⟨List.mem_of_getElem? (i := 1066) (by decide +kernel), rfl⟩
theorem mw_1067 : Cond.code yX7_type cX7_type 2 (some .int) ∈ gT := List.mem_filter.mpr ⟨List.mem_of_getElem? (i := 1067) (by decide +kernel), rfl⟩
theorem mw_1068 : Cond.methodLink RL 99 yX7_clear ∈ gT := List.mem_filter.mpr ⟨List.mem_of_getElem? (i := 1068) (by decide +kernel), rfl⟩
theorem mw_1069 : Cond.instanceMethod yX7_clear ∈ gT := List.mem_filter.mpr ⟨List.mem_of_getElem? (i := 1069) (by decide +kernel), rfl⟩
theorem mw_1070 : Cond.selects RX7 yX7_clear yX7_clear ∈ gT := List.mem_filter.mpr ⟨List.mem_of_getElem? (i := 1070) (by decide +kernel), rfl⟩
theorem mw_1071 : Cond.code yX7_clear cX7_clear 2 (some .int) ∈ gT := List.mem_filter.mpr ⟨List.mem_of_getElem? (i := 1071) (by decide +kernel), rfl⟩
theorem mw_1072 : Cond.methodLink RL 103 yX7_reads ∈ gT := List.mem_filter.mpr ⟨List.mem_of_getElem? (i := 1072) (by decide +kernel), rfl⟩
theorem mw_1073 : Cond.instanceMethod yX7_reads ∈ gT := List.mem_filter.mpr ⟨List.mem_of_getElem? (i := 1073) (by decide +kernel), rfl⟩
theorem mw_1074 : Cond.selects RX7 yX7_reads yX7_reads ∈ gT := List.mem_filter.mpr ⟨List.mem_of_getElem? (i := 1074) (by decide +kernel), rfl⟩
theorem mw_1075 : Cond.code yX7_reads cX7_reads 3 (some .int) ∈ gT := List.mem_filter.mpr ⟨List.mem_of_getElem? (i := 1075) (by decide +kernel), rfl⟩
theorem mw_1076 : Cond.methodLink RX7 202 yX7_skips ∈ gT := List.mem_filter.mpr ⟨List.mem_of_getElem? (i := 1076) (by decide +kernel), rfl⟩
theorem mw_1078 : Cond.instanceMethod yX7_skips ∈ gT := List.mem_filter.mpr ⟨List.mem_of_getElem? (i := 1078) (by decide +kernel), rfl⟩
theorem mw_1079 : Cond.code yX7_skips cX7_skips 1 none ∈ gT := List.mem_filter.mpr ⟨List.mem_of_getElem? (i := 1079) (by decide +kernel), rfl⟩
theorem mw_1080 : Cond.methodLink RX7 199 yX7_byteAt ∈ gT := List.mem_filter.mpr ⟨List.mem_of_getElem? (i := 1080) (by decide +kernel), rfl⟩
theorem mw_1082 : Cond.instanceMethod yX7_byteAt ∈ gT := List.mem_filter.mpr ⟨List.mem_of_getElem? (i := 1082) (by decide +kernel), rfl⟩
theorem mw_1083 : Cond.code yX7_byteAt cX7_byteAt 2 (some .int) ∈ gT := List.mem_filter.mpr ⟨List.mem_of_getElem? (i := 1083) (by decide +kernel), rfl⟩
theorem mw_1084 : Cond.methodLink RX7 218 yX7_sentence ∈ gT := List.mem_filter.mpr ⟨List.mem_of_getElem? (i := 1084) (by decide +kernel), rfl⟩
theorem mw_1086 : Cond.instanceMethod yX7_sentence ∈ gT := List.mem_filter.mpr ⟨List.mem_of_getElem? (i := 1086) (by decide +kernel), rfl⟩
theorem mw_1087 : Cond.code yX7_sentence cX7_sentence 4 (some .boolean) ∈ gT := List.mem_filter.mpr ⟨List.mem_of_getElem? (i := 1087) (by decide +kernel), rfl⟩
theorem mw_1088 : Cond.methodLink RX7 205 yX7_isFamily ∈ gT := List.mem_filter.mpr ⟨List.mem_of_getElem? (i := 1088) (by decide +kernel), rfl⟩
theorem mw_1090 : Cond.instanceMethod yX7_isFamily ∈ gT := List.mem_filter.mpr ⟨List.mem_of_getElem? (i := 1090) (by decide +kernel), rfl⟩
theorem mw_1091 : Cond.code yX7_isFamily cX7_isFamily 2 (some .boolean) ∈ gT := List.mem_filter.mpr ⟨List.mem_of_getElem? (i := 1091) (by decide +kernel), rfl⟩
theorem mw_1092 : Cond.methodLink RX7 209 yX7_readsTurns ∈ gT := List.mem_filter.mpr ⟨List.mem_of_getElem? (i := 1092) (by decide +kernel), rfl⟩
theorem mw_1094 : Cond.instanceMethod yX7_readsTurns ∈ gT := List.mem_filter.mpr ⟨List.mem_of_getElem? (i := 1094) (by decide +kernel), rfl⟩
theorem mw_1095 : Cond.code yX7_readsTurns cX7_readsTurns 2 (some .int) ∈ gT := List.mem_filter.mpr ⟨List.mem_of_getElem? (i := 1095) (by decide +kernel), rfl⟩
theorem mw_1096 : Cond.methodLink RX7 212 yX7_readsSign ∈ gT := List.mem_filter.mpr ⟨List.mem_of_getElem? (i := 1096) (by decide +kernel), rfl⟩
theorem mw_1098 : Cond.instanceMethod yX7_readsSign ∈ gT := List.mem_filter.mpr ⟨List.mem_of_getElem? (i := 1098) (by decide +kernel), rfl⟩
theorem mw_1099 : Cond.code yX7_readsSign cX7_readsSign 3 (some .boolean) ∈ gT := List.mem_filter.mpr ⟨List.mem_of_getElem? (i := 1099) (by decide +kernel), rfl⟩
theorem mw_1100 : Cond.methodLink RX7 215 yX7_readsOff ∈ gT := List.mem_filter.mpr ⟨List.mem_of_getElem? (i := 1100) (by decide +kernel), rfl⟩
theorem mw_1102 : Cond.instanceMethod yX7_readsOff ∈ gT := List.mem_filter.mpr ⟨List.mem_of_getElem? (i := 1102) (by decide +kernel), rfl⟩
theorem mw_1103 : Cond.code yX7_readsOff cX7_readsOff 3 (some .int) ∈ gT := List.mem_filter.mpr ⟨List.mem_of_getElem? (i := 1103) (by decide +kernel), rfl⟩
theorem mw_1104 : Cond.methodLink RL 107 yX7_back ∈ gT := List.mem_filter.mpr ⟨List.mem_of_getElem? (i := 1104) (by decide +kernel), rfl⟩
theorem mw_1105 : Cond.instanceMethod yX7_back ∈ gT := List.mem_filter.mpr ⟨List.mem_of_getElem? (i := 1105) (by decide +kernel), rfl⟩
theorem mw_1106 : Cond.selects RX7 yX7_back yX7_back ∈ gT := List.mem_filter.mpr ⟨List.mem_of_getElem? (i := 1106) (by decide +kernel), rfl⟩
theorem mw_1107 : Cond.code yX7_back cX7_back 2 (some .int) ∈ gT := List.mem_filter.mpr ⟨List.mem_of_getElem? (i := 1107) (by decide +kernel), rfl⟩
theorem mw_1108 : Cond.methodLink RL 111 yX7_told ∈ gT := List.mem_filter.mpr ⟨List.mem_of_getElem? (i := 1108) (by decide +kernel), rfl⟩
theorem mw_1109 : Cond.instanceMethod yX7_told ∈ gT := List.mem_filter.mpr ⟨List.mem_of_getElem? (i := 1109) (by decide +kernel), rfl⟩
theorem mw_1110 : Cond.selects RX7 yX7_told yX7_told ∈ gT := List.mem_filter.mpr ⟨List.mem_of_getElem? (i := 1110) (by decide +kernel), rfl⟩
theorem mw_1111 : Cond.code yX7_told cX7_told 2 (some .int) ∈ gT := List.mem_filter.mpr ⟨List.mem_of_getElem? (i := 1111) (by decide +kernel), rfl⟩
theorem mw_1112 : Cond.methodLink RX7 221 yX7_toldOf ∈ gT := List.mem_filter.mpr ⟨List.mem_of_getElem? (i := 1112) (by decide +kernel), rfl⟩
theorem mw_1114 : Cond.instanceMethod yX7_toldOf ∈ gT := List.mem_filter.mpr ⟨List.mem_of_getElem? (i := 1114) (by decide +kernel), rfl⟩
theorem mw_1115 : Cond.code yX7_toldOf cX7_toldOf 2 (some .int) ∈ gT := List.mem_filter.mpr ⟨List.mem_of_getElem? (i := 1115) (by decide +kernel), rfl⟩
theorem mw_1116 : Cond.methodLink RL 116 yX7_digest ∈ gT := List.mem_filter.mpr ⟨List.mem_of_getElem? (i := 1116) (by decide +kernel), rfl⟩
theorem mw_1117 : Cond.instanceMethod yX7_digest ∈ gT := List.mem_filter.mpr ⟨List.mem_of_getElem? (i := 1117) (by decide +kernel), rfl⟩
theorem mw_1118 : Cond.selects RX7 yX7_digest yX7_digest ∈ gT := List.mem_filter.mpr ⟨List.mem_of_getElem? (i := 1118) (by decide +kernel), rfl⟩
theorem mw_1119 : Cond.code yX7_digest cX7_digest 6 (some .long) ∈ gT := List.mem_filter.mpr ⟨List.mem_of_getElem? (i := 1119) (by decide +kernel), rfl⟩
theorem mw_1120 : Cond.constantLong RX7 224 (2179) ∈ gT := List.mem_filter.mpr ⟨List.mem_of_getElem? (i := 1120) (by decide +kernel), rfl⟩
theorem gin_X0 : ∀ w ∈ u_ws RX0 TX0 3, w ∈ gT := gin_r _ [282, 284, 286] (by decide +kernel) (by decide +kernel)
theorem gin_X1 : ∀ w ∈ u_ws RX1 TX1 11, w ∈ gT := gin_r _ [213, 215, 217, 219, 221, 223, 225, 227, 229, 231, 233] (by decide +kernel) (by decide +kernel)
theorem gin_X2 : ∀ w ∈ u_ws RX2 TX2 5, w ∈ gT := gin_r _ [147, 149, 151, 153, 155] (by decide +kernel) (by decide +kernel)
theorem gin_X3 : ∀ w ∈ u_ws RX3 TX3 9, w ∈ gT := gin_r _ [308, 310, 312, 314, 316, 318, 320, 322, 324] (by decide +kernel) (by decide +kernel)
theorem gin_X4 : ∀ w ∈ u_ws RX4 TX4 9, w ∈ gT := gin_r _ [249, 251, 253, 255, 257, 259, 261, 263, 265] (by decide +kernel) (by decide +kernel)
theorem gin_X5 : ∀ w ∈ u_ws RX5 TX5 3, w ∈ gT := gin_r _ [172, 174, 176] (by decide +kernel) (by decide +kernel)
theorem gin_X6 : ∀ w ∈ u_ws RX6 TX6 16, w ∈ gT := gin_r _ [351, 353, 355, 357, 359, 361, 363, 365, 367, 369, 371, 373, 375, 377, 379, 381] (by decide +kernel) (by decide +kernel)
theorem gin_X7 : ∀ w ∈ u_ws RX7 TX7 16, w ∈ gT := gin_r _ [810, 812, 814, 816, 818, 820, 822, 824, 826, 828, 830, 832, 834, 836, 838, 840] (by decide +kernel) (by decide +kernel)
