set_option maxHeartbeats 4000000 in
set_option maxRecDepth 100000 in
theorem c_X1_lay_53_1 (a0 : Int32) (a1 : Int32) {I : Nat → Int32} {A : Nat → Nat → Int32} {L : Nat → Int64} {t : Int32} {I' : Nat → Int32} {A' : Nat → Nat → Int32} {L' : Nat → Int64} (h : f_X1_lay 53 1 a0 a1 I A L = some (t, I', A', L')) : GM 70 yX1_lay cX1_lay 12 (some .boolean) 0 [.ref 53, .ref 1, .int a0, .int a1] I A L (some (.int t), (I', A', L')) := by
  refine gm_of (n := 8) (lc := [some (.ref 53), some (.ref 1), some (.int a0), some (.int a1), none, none, none, none, none, none, none, none]) (by decide +kernel) rfl (fun _ => Nat.le_of_ble_eq_true rfl) ?_
  change Ev 70 RX1 cX1_lay 12 (some .boolean) 0 0 [some (.ref 53), some (.ref 1), some (.int a0), some (.int a1), none, none, none, none, none, none, none, none] [] I A L _
  unfold f_X1_lay at h
  refine e_aload_n (pc' := 1) (i := 1) rfl rfl dX1_lay_0 rfl ?_
  refine e_getRN (a := 1) (b := 2) (k0 := 0) (pc' := 4) dX1_lay_1 rfl rfl (Nat.le_of_ble_eq_true rfl) (Nat.le_of_ble_eq_true rfl) rfl mw_127 rfl ?_
  refine e_iload_n (pc' := 5) (i := 2) rfl rfl dX1_lay_4 rfl ?_
  refine e_iald (n := 32) (pc' := 6) dX1_lay_5 rfl rfl (Nat.le_of_ble_eq_true rfl) h (fun h => ?_)
  refine e_lt h (fun v1 h => ?_)
  refine e_istore (pc' := 8) (i := 4) (lc' := [some (.ref 53), some (.ref 1), some (.int a0), some (.int a1), some (.int v1), none, none, none, none, none, none, none]) dX1_lay_6 rfl (Nat.le_of_ble_eq_true rfl) rfl rfl ?_
  refine e_aload_n (pc' := 9) (i := 1) rfl rfl dX1_lay_8 rfl ?_
  refine e_getRN (a := 1) (b := 3) (k0 := 1) (pc' := 12) dX1_lay_9 rfl rfl (Nat.le_of_ble_eq_true rfl) (Nat.le_of_ble_eq_true rfl) rfl mw_131 rfl ?_
  refine e_iload_n (pc' := 13) (i := 2) rfl rfl dX1_lay_12 rfl ?_
  refine e_iald (n := 32) (pc' := 14) dX1_lay_13 rfl rfl (Nat.le_of_ble_eq_true rfl) h (fun h => ?_)
  refine e_lt h (fun v2 h => ?_)
  refine e_istore (pc' := 16) (i := 5) (lc' := [some (.ref 53), some (.ref 1), some (.int a0), some (.int a1), some (.int v1), some (.int v2), none, none, none, none, none, none]) dX1_lay_14 rfl (Nat.le_of_ble_eq_true rfl) rfl rfl ?_
  refine e_aload_n (pc' := 17) (i := 1) rfl rfl dX1_lay_16 rfl ?_
  refine e_getRN (a := 1) (b := 4) (k0 := 2) (pc' := 20) dX1_lay_17 rfl rfl (Nat.le_of_ble_eq_true rfl) (Nat.le_of_ble_eq_true rfl) rfl mw_135 rfl ?_
  refine e_iload_n (pc' := 21) (i := 2) rfl rfl dX1_lay_20 rfl ?_
  refine e_iald (n := 32) (pc' := 22) dX1_lay_21 rfl rfl (Nat.le_of_ble_eq_true rfl) h (fun h => ?_)
  refine e_lt h (fun v3 h => ?_)
  refine e_istore (pc' := 24) (i := 6) (lc' := [some (.ref 53), some (.ref 1), some (.int a0), some (.int a1), some (.int v1), some (.int v2), some (.int v3), none, none, none, none, none]) dX1_lay_22 rfl (Nat.le_of_ble_eq_true rfl) rfl rfl ?_
  refine e_aload_n (pc' := 25) (i := 1) rfl rfl dX1_lay_24 rfl ?_
  refine e_getRN (a := 1) (b := 5) (k0 := 3) (pc' := 28) dX1_lay_25 rfl rfl (Nat.le_of_ble_eq_true rfl) (Nat.le_of_ble_eq_true rfl) rfl mw_139 rfl ?_
  refine e_iload_n (pc' := 29) (i := 2) rfl rfl dX1_lay_28 rfl ?_
  refine e_iald (n := 32) (pc' := 30) dX1_lay_29 rfl rfl (Nat.le_of_ble_eq_true rfl) h (fun h => ?_)
  refine e_lt h (fun v4 h => ?_)
  refine e_istore (pc' := 32) (i := 7) (lc' := [some (.ref 53), some (.ref 1), some (.int a0), some (.int a1), some (.int v1), some (.int v2), some (.int v3), some (.int v4), none, none, none, none]) dX1_lay_30 rfl (Nat.le_of_ble_eq_true rfl) rfl rfl ?_
  refine e_aload_n (pc' := 33) (i := 1) rfl rfl dX1_lay_32 rfl ?_
  refine e_getRN (a := 1) (b := 2) (k0 := 0) (pc' := 36) dX1_lay_33 rfl rfl (Nat.le_of_ble_eq_true rfl) (Nat.le_of_ble_eq_true rfl) rfl mw_127 rfl ?_
  refine e_iload_n (pc' := 37) (i := 3) rfl rfl dX1_lay_36 rfl ?_
  refine e_iald (n := 32) (pc' := 38) dX1_lay_37 rfl rfl (Nat.le_of_ble_eq_true rfl) h (fun h => ?_)
  refine e_lt h (fun v5 h => ?_)
  refine e_istore (pc' := 40) (i := 8) (lc' := [some (.ref 53), some (.ref 1), some (.int a0), some (.int a1), some (.int v1), some (.int v2), some (.int v3), some (.int v4), some (.int v5), none, none, none]) dX1_lay_38 rfl (Nat.le_of_ble_eq_true rfl) rfl rfl ?_
  refine e_aload_n (pc' := 41) (i := 1) rfl rfl dX1_lay_40 rfl ?_
  refine e_getRN (a := 1) (b := 3) (k0 := 1) (pc' := 44) dX1_lay_41 rfl rfl (Nat.le_of_ble_eq_true rfl) (Nat.le_of_ble_eq_true rfl) rfl mw_131 rfl ?_
  refine e_iload_n (pc' := 45) (i := 3) rfl rfl dX1_lay_44 rfl ?_
  refine e_iald (n := 32) (pc' := 46) dX1_lay_45 rfl rfl (Nat.le_of_ble_eq_true rfl) h (fun h => ?_)
  refine e_lt h (fun v6 h => ?_)
  refine e_istore (pc' := 48) (i := 9) (lc' := [some (.ref 53), some (.ref 1), some (.int a0), some (.int a1), some (.int v1), some (.int v2), some (.int v3), some (.int v4), some (.int v5), some (.int v6), none, none]) dX1_lay_46 rfl (Nat.le_of_ble_eq_true rfl) rfl rfl ?_
  refine e_aload_n (pc' := 49) (i := 1) rfl rfl dX1_lay_48 rfl ?_
  refine e_getRN (a := 1) (b := 4) (k0 := 2) (pc' := 52) dX1_lay_49 rfl rfl (Nat.le_of_ble_eq_true rfl) (Nat.le_of_ble_eq_true rfl) rfl mw_135 rfl ?_
  refine e_iload_n (pc' := 53) (i := 3) rfl rfl dX1_lay_52 rfl ?_
  refine e_iald (n := 32) (pc' := 54) dX1_lay_53 rfl rfl (Nat.le_of_ble_eq_true rfl) h (fun h => ?_)
  refine e_lt h (fun v7 h => ?_)
  refine e_istore (pc' := 56) (i := 10) (lc' := [some (.ref 53), some (.ref 1), some (.int a0), some (.int a1), some (.int v1), some (.int v2), some (.int v3), some (.int v4), some (.int v5), some (.int v6), some (.int v7), none]) dX1_lay_54 rfl (Nat.le_of_ble_eq_true rfl) rfl rfl ?_
  refine e_aload_n (pc' := 57) (i := 1) rfl rfl dX1_lay_56 rfl ?_
  refine e_getRN (a := 1) (b := 5) (k0 := 3) (pc' := 60) dX1_lay_57 rfl rfl (Nat.le_of_ble_eq_true rfl) (Nat.le_of_ble_eq_true rfl) rfl mw_139 rfl ?_
  refine e_iload_n (pc' := 61) (i := 3) rfl rfl dX1_lay_60 rfl ?_
  refine e_iald (n := 32) (pc' := 62) dX1_lay_61 rfl rfl (Nat.le_of_ble_eq_true rfl) h (fun h => ?_)
  refine e_lt h (fun v8 h => ?_)
  refine e_istore (pc' := 64) (i := 11) (lc' := [some (.ref 53), some (.ref 1), some (.int a0), some (.int a1), some (.int v1), some (.int v2), some (.int v3), some (.int v4), some (.int v5), some (.int v6), some (.int v7), some (.int v8)]) dX1_lay_62 rfl (Nat.le_of_ble_eq_true rfl) rfl rfl ?_
  refine e_aload_n (pc' := 65) (i := 0) rfl rfl dX1_lay_64 rfl ?_
  refine e_iload (pc' := 67) (i := 5) rfl dX1_lay_65 rfl ?_
  refine e_iload (pc' := 69) (i := 10) rfl dX1_lay_67 rfl ?_
  refine e_imul (pc' := 70) dX1_lay_69 rfl ?_
  refine e_iload (pc' := 72) (i := 6) rfl dX1_lay_70 rfl ?_
  refine e_iload (pc' := 74) (i := 9) rfl dX1_lay_72 rfl ?_
  refine e_imul (pc' := 75) dX1_lay_74 rfl ?_
  refine e_isub (pc' := 76) dX1_lay_75 rfl ?_
  refine e_putI (a := 53) (n := 848) (k0 := 0) (pc' := 79) dX1_lay_76 rfl rfl (Nat.le_of_ble_eq_true rfl) (Nat.le_of_ble_eq_true rfl) rfl mw_191 rfl rfl g_pI rfl rfl ?_
  refine e_ltI h (fun I9 h => ?_)
  refine e_aload_n (pc' := 80) (i := 0) rfl rfl dX1_lay_79 rfl ?_
  refine e_iload (pc' := 82) (i := 6) rfl dX1_lay_80 rfl ?_
  refine e_iload (pc' := 84) (i := 8) rfl dX1_lay_82 rfl ?_
  refine e_imul (pc' := 85) dX1_lay_84 rfl ?_
  refine e_iload (pc' := 87) (i := 4) rfl dX1_lay_85 rfl ?_
  refine e_iload (pc' := 89) (i := 10) rfl dX1_lay_87 rfl ?_
  refine e_imul (pc' := 90) dX1_lay_89 rfl ?_
  refine e_isub (pc' := 91) dX1_lay_90 rfl ?_
  refine e_putI (a := 53) (n := 849) (k0 := 1) (pc' := 94) dX1_lay_91 rfl rfl (Nat.le_of_ble_eq_true rfl) (Nat.le_of_ble_eq_true rfl) rfl mw_193 rfl rfl g_pI rfl rfl ?_
  refine e_ltI h (fun I10 h => ?_)
  refine e_aload_n (pc' := 95) (i := 0) rfl rfl dX1_lay_94 rfl ?_
  refine e_iload (pc' := 97) (i := 4) rfl dX1_lay_95 rfl ?_
  refine e_iload (pc' := 99) (i := 9) rfl dX1_lay_97 rfl ?_
  refine e_imul (pc' := 100) dX1_lay_99 rfl ?_
  refine e_iload (pc' := 102) (i := 5) rfl dX1_lay_100 rfl ?_
  refine e_iload (pc' := 104) (i := 8) rfl dX1_lay_102 rfl ?_
  refine e_imul (pc' := 105) dX1_lay_104 rfl ?_
  refine e_isub (pc' := 106) dX1_lay_105 rfl ?_
  refine e_putI (a := 53) (n := 850) (k0 := 2) (pc' := 109) dX1_lay_106 rfl rfl (Nat.le_of_ble_eq_true rfl) (Nat.le_of_ble_eq_true rfl) rfl mw_195 rfl rfl g_pI rfl rfl ?_
  refine e_ltI h (fun I11 h => ?_)
  refine e_aload_n (pc' := 110) (i := 0) rfl rfl dX1_lay_109 rfl ?_
  refine e_aload_n (pc' := 111) (i := 0) rfl rfl dX1_lay_110 rfl ?_
  refine e_getI (a := 53) (n := 848) (k0 := 0) (pc' := 114) dX1_lay_111 rfl rfl (Nat.le_of_ble_eq_true rfl) (Nat.le_of_ble_eq_true rfl) rfl mw_191 rfl ?_
  refine e_aload_n (pc' := 115) (i := 0) rfl rfl dX1_lay_114 rfl ?_
  refine e_getI (a := 53) (n := 848) (k0 := 0) (pc' := 118) dX1_lay_115 rfl rfl (Nat.le_of_ble_eq_true rfl) (Nat.le_of_ble_eq_true rfl) rfl mw_191 rfl ?_
  refine e_imul (pc' := 119) dX1_lay_118 rfl ?_
  refine e_aload_n (pc' := 120) (i := 0) rfl rfl dX1_lay_119 rfl ?_
  refine e_getI (a := 53) (n := 849) (k0 := 1) (pc' := 123) dX1_lay_120 rfl rfl (Nat.le_of_ble_eq_true rfl) (Nat.le_of_ble_eq_true rfl) rfl mw_193 rfl ?_
  refine e_aload_n (pc' := 124) (i := 0) rfl rfl dX1_lay_123 rfl ?_
  refine e_getI (a := 53) (n := 849) (k0 := 1) (pc' := 127) dX1_lay_124 rfl rfl (Nat.le_of_ble_eq_true rfl) (Nat.le_of_ble_eq_true rfl) rfl mw_193 rfl ?_
  refine e_imul (pc' := 128) dX1_lay_127 rfl ?_
  refine e_iadd (pc' := 129) dX1_lay_128 rfl ?_
  refine e_aload_n (pc' := 130) (i := 0) rfl rfl dX1_lay_129 rfl ?_
  refine e_getI (a := 53) (n := 850) (k0 := 2) (pc' := 133) dX1_lay_130 rfl rfl (Nat.le_of_ble_eq_true rfl) (Nat.le_of_ble_eq_true rfl) rfl mw_195 rfl ?_
  refine e_aload_n (pc' := 134) (i := 0) rfl rfl dX1_lay_133 rfl ?_
  refine e_getI (a := 53) (n := 850) (k0 := 2) (pc' := 137) dX1_lay_134 rfl rfl (Nat.le_of_ble_eq_true rfl) (Nat.le_of_ble_eq_true rfl) rfl mw_195 rfl ?_
  refine e_imul (pc' := 138) dX1_lay_137 rfl ?_
  refine e_iadd (pc' := 139) dX1_lay_138 rfl ?_
  refine e_putI (a := 53) (n := 854) (k0 := 6) (pc' := 142) dX1_lay_139 rfl rfl (Nat.le_of_ble_eq_true rfl) (Nat.le_of_ble_eq_true rfl) rfl mw_203 rfl rfl g_pI rfl rfl ?_
  refine e_ltI h (fun I12 h => ?_)
  refine e_aload_n (pc' := 143) (i := 0) rfl rfl dX1_lay_142 rfl ?_
  refine e_getI (a := 53) (n := 854) (k0 := 6) (pc' := 146) dX1_lay_143 rfl rfl (Nat.le_of_ble_eq_true rfl) (Nat.le_of_ble_eq_true rfl) rfl mw_203 rfl ?_
  refine e_if_ne (tgt := 151) (pc' := 149) dX1_lay_146 (by decide) rfl h (fun h => ?_) (fun h => ?_)
  · refine e_aload_n (pc' := 152) (i := 0) rfl rfl dX1_lay_151 rfl ?_
    refine e_iload (pc' := 154) (i := 7) rfl dX1_lay_152 rfl ?_
    refine e_iload (pc' := 156) (i := 9) rfl dX1_lay_154 rfl ?_
    refine e_aload_n (pc' := 157) (i := 0) rfl rfl dX1_lay_156 rfl ?_
    refine e_getI (a := 53) (n := 850) (k0 := 2) (pc' := 160) dX1_lay_157 rfl rfl (Nat.le_of_ble_eq_true rfl) (Nat.le_of_ble_eq_true rfl) rfl mw_195 rfl ?_
    refine e_imul (pc' := 161) dX1_lay_160 rfl ?_
    refine e_iload (pc' := 163) (i := 10) rfl dX1_lay_161 rfl ?_
    refine e_aload_n (pc' := 164) (i := 0) rfl rfl dX1_lay_163 rfl ?_
    refine e_getI (a := 53) (n := 849) (k0 := 1) (pc' := 167) dX1_lay_164 rfl rfl (Nat.le_of_ble_eq_true rfl) (Nat.le_of_ble_eq_true rfl) rfl mw_193 rfl ?_
    refine e_imul (pc' := 168) dX1_lay_167 rfl ?_
    refine e_isub (pc' := 169) dX1_lay_168 rfl ?_
    refine e_imul (pc' := 170) dX1_lay_169 rfl ?_
    refine e_iload (pc' := 172) (i := 11) rfl dX1_lay_170 rfl ?_
    refine e_aload_n (pc' := 173) (i := 0) rfl rfl dX1_lay_172 rfl ?_
    refine e_getI (a := 53) (n := 849) (k0 := 1) (pc' := 176) dX1_lay_173 rfl rfl (Nat.le_of_ble_eq_true rfl) (Nat.le_of_ble_eq_true rfl) rfl mw_193 rfl ?_
    refine e_iload (pc' := 178) (i := 6) rfl dX1_lay_176 rfl ?_
    refine e_imul (pc' := 179) dX1_lay_178 rfl ?_
    refine e_aload_n (pc' := 180) (i := 0) rfl rfl dX1_lay_179 rfl ?_
    refine e_getI (a := 53) (n := 850) (k0 := 2) (pc' := 183) dX1_lay_180 rfl rfl (Nat.le_of_ble_eq_true rfl) (Nat.le_of_ble_eq_true rfl) rfl mw_195 rfl ?_
    refine e_iload (pc' := 185) (i := 5) rfl dX1_lay_183 rfl ?_
    refine e_imul (pc' := 186) dX1_lay_185 rfl ?_
    refine e_isub (pc' := 187) dX1_lay_186 rfl ?_
    refine e_imul (pc' := 188) dX1_lay_187 rfl ?_
    refine e_iadd (pc' := 189) dX1_lay_188 rfl ?_
    refine e_putI (a := 53) (n := 851) (k0 := 3) (pc' := 192) dX1_lay_189 rfl rfl (Nat.le_of_ble_eq_true rfl) (Nat.le_of_ble_eq_true rfl) rfl mw_197 rfl rfl g_pI rfl rfl ?_
    refine e_ltI h (fun I13 h => ?_)
    refine e_aload_n (pc' := 193) (i := 0) rfl rfl dX1_lay_192 rfl ?_
    refine e_iload (pc' := 195) (i := 7) rfl dX1_lay_193 rfl ?_
    refine e_iload (pc' := 197) (i := 10) rfl dX1_lay_195 rfl ?_
    refine e_aload_n (pc' := 198) (i := 0) rfl rfl dX1_lay_197 rfl ?_
    refine e_getI (a := 53) (n := 848) (k0 := 0) (pc' := 201) dX1_lay_198 rfl rfl (Nat.le_of_ble_eq_true rfl) (Nat.le_of_ble_eq_true rfl) rfl mw_191 rfl ?_
    refine e_imul (pc' := 202) dX1_lay_201 rfl ?_
    refine e_iload (pc' := 204) (i := 8) rfl dX1_lay_202 rfl ?_
    refine e_aload_n (pc' := 205) (i := 0) rfl rfl dX1_lay_204 rfl ?_
    refine e_getI (a := 53) (n := 850) (k0 := 2) (pc' := 208) dX1_lay_205 rfl rfl (Nat.le_of_ble_eq_true rfl) (Nat.le_of_ble_eq_true rfl) rfl mw_195 rfl ?_
    refine e_imul (pc' := 209) dX1_lay_208 rfl ?_
    refine e_isub (pc' := 210) dX1_lay_209 rfl ?_
    refine e_imul (pc' := 211) dX1_lay_210 rfl ?_
    refine e_iload (pc' := 213) (i := 11) rfl dX1_lay_211 rfl ?_
    refine e_aload_n (pc' := 214) (i := 0) rfl rfl dX1_lay_213 rfl ?_
    refine e_getI (a := 53) (n := 850) (k0 := 2) (pc' := 217) dX1_lay_214 rfl rfl (Nat.le_of_ble_eq_true rfl) (Nat.le_of_ble_eq_true rfl) rfl mw_195 rfl ?_
    refine e_iload (pc' := 219) (i := 4) rfl dX1_lay_217 rfl ?_
    refine e_imul (pc' := 220) dX1_lay_219 rfl ?_
    refine e_aload_n (pc' := 221) (i := 0) rfl rfl dX1_lay_220 rfl ?_
    refine e_getI (a := 53) (n := 848) (k0 := 0) (pc' := 224) dX1_lay_221 rfl rfl (Nat.le_of_ble_eq_true rfl) (Nat.le_of_ble_eq_true rfl) rfl mw_191 rfl ?_
    refine e_iload (pc' := 226) (i := 6) rfl dX1_lay_224 rfl ?_
    refine e_imul (pc' := 227) dX1_lay_226 rfl ?_
    refine e_isub (pc' := 228) dX1_lay_227 rfl ?_
    refine e_imul (pc' := 229) dX1_lay_228 rfl ?_
    refine e_iadd (pc' := 230) dX1_lay_229 rfl ?_
    refine e_putI (a := 53) (n := 852) (k0 := 4) (pc' := 233) dX1_lay_230 rfl rfl (Nat.le_of_ble_eq_true rfl) (Nat.le_of_ble_eq_true rfl) rfl mw_199 rfl rfl g_pI rfl rfl ?_
    refine e_ltI h (fun I14 h => ?_)
    refine e_aload_n (pc' := 234) (i := 0) rfl rfl dX1_lay_233 rfl ?_
    refine e_iload (pc' := 236) (i := 7) rfl dX1_lay_234 rfl ?_
    refine e_iload (pc' := 238) (i := 8) rfl dX1_lay_236 rfl ?_
    refine e_aload_n (pc' := 239) (i := 0) rfl rfl dX1_lay_238 rfl ?_
    refine e_getI (a := 53) (n := 849) (k0 := 1) (pc' := 242) dX1_lay_239 rfl rfl (Nat.le_of_ble_eq_true rfl) (Nat.le_of_ble_eq_true rfl) rfl mw_193 rfl ?_
    refine e_imul (pc' := 243) dX1_lay_242 rfl ?_
    refine e_iload (pc' := 245) (i := 9) rfl dX1_lay_243 rfl ?_
    refine e_aload_n (pc' := 246) (i := 0) rfl rfl dX1_lay_245 rfl ?_
    refine e_getI (a := 53) (n := 848) (k0 := 0) (pc' := 249) dX1_lay_246 rfl rfl (Nat.le_of_ble_eq_true rfl) (Nat.le_of_ble_eq_true rfl) rfl mw_191 rfl ?_
    refine e_imul (pc' := 250) dX1_lay_249 rfl ?_
    refine e_isub (pc' := 251) dX1_lay_250 rfl ?_
    refine e_imul (pc' := 252) dX1_lay_251 rfl ?_
    refine e_iload (pc' := 254) (i := 11) rfl dX1_lay_252 rfl ?_
    refine e_aload_n (pc' := 255) (i := 0) rfl rfl dX1_lay_254 rfl ?_
    refine e_getI (a := 53) (n := 848) (k0 := 0) (pc' := 258) dX1_lay_255 rfl rfl (Nat.le_of_ble_eq_true rfl) (Nat.le_of_ble_eq_true rfl) rfl mw_191 rfl ?_
    refine e_iload (pc' := 260) (i := 5) rfl dX1_lay_258 rfl ?_
    refine e_imul (pc' := 261) dX1_lay_260 rfl ?_
    refine e_aload_n (pc' := 262) (i := 0) rfl rfl dX1_lay_261 rfl ?_
    refine e_getI (a := 53) (n := 849) (k0 := 1) (pc' := 265) dX1_lay_262 rfl rfl (Nat.le_of_ble_eq_true rfl) (Nat.le_of_ble_eq_true rfl) rfl mw_193 rfl ?_
    refine e_iload (pc' := 267) (i := 4) rfl dX1_lay_265 rfl ?_
    refine e_imul (pc' := 268) dX1_lay_267 rfl ?_
    refine e_isub (pc' := 269) dX1_lay_268 rfl ?_
    refine e_imul (pc' := 270) dX1_lay_269 rfl ?_
    refine e_iadd (pc' := 271) dX1_lay_270 rfl ?_
    refine e_putI (a := 53) (n := 853) (k0 := 5) (pc' := 274) dX1_lay_271 rfl rfl (Nat.le_of_ble_eq_true rfl) (Nat.le_of_ble_eq_true rfl) rfl mw_201 rfl rfl g_pI rfl rfl ?_
    refine e_ltI h (fun I15 h => ?_)
    refine e_aload_n (pc' := 275) (i := 0) rfl rfl dX1_lay_274 rfl ?_
    refine e_iconst (v := (-1)) (pc' := 276) (by decide) dX1_lay_275 rfl ?_
    refine e_putI (a := 53) (n := 855) (k0 := 7) (pc' := 279) dX1_lay_276 rfl rfl (Nat.le_of_ble_eq_true rfl) (Nat.le_of_ble_eq_true rfl) rfl mw_206 rfl rfl g_pI rfl rfl ?_
    refine e_ltI h (fun I16 h => ?_)
    refine e_aload_n (pc' := 280) (i := 0) rfl rfl dX1_lay_279 rfl ?_
    refine e_iconst (v := 0) (pc' := 281) (by decide) dX1_lay_280 rfl ?_
    refine e_putI (a := 53) (n := 856) (k0 := 8) (pc' := 284) dX1_lay_281 rfl rfl (Nat.le_of_ble_eq_true rfl) (Nat.le_of_ble_eq_true rfl) rfl mw_208 rfl rfl g_pI rfl rfl ?_
    refine e_ltI h (fun I17 h => ?_)
    refine e_aload_n (pc' := 285) (i := 0) rfl rfl dX1_lay_284 rfl ?_
    refine e_iconst (v := 1) (pc' := 286) (by decide) dX1_lay_285 rfl ?_
    refine e_putI (a := 53) (n := 857) (k0 := 9) (pc' := 289) dX1_lay_286 rfl rfl (Nat.le_of_ble_eq_true rfl) (Nat.le_of_ble_eq_true rfl) rfl mw_210 rfl rfl g_pI rfl rfl ?_
    refine e_ltI h (fun I18 h => ?_)
    refine e_aload_n (pc' := 290) (i := 0) rfl rfl dX1_lay_289 rfl ?_
    refine e_iconst (v := 0) (pc' := 291) (by decide) dX1_lay_290 rfl ?_
    refine e_putI (a := 53) (n := 858) (k0 := 10) (pc' := 294) dX1_lay_291 rfl rfl (Nat.le_of_ble_eq_true rfl) (Nat.le_of_ble_eq_true rfl) rfl mw_212 rfl rfl g_pI rfl rfl ?_
    refine e_ltI h (fun I19 h => ?_)
    refine e_iconst (v := 1) (pc' := 295) (by decide) dX1_lay_294 rfl ?_
    obtain ⟨rfl, rfl, rfl, rfl⟩ := g_re4 h
    exact e_zret dX1_lay_295 (by decide)
  · refine e_iconst (v := 0) (pc' := 150) (by decide) dX1_lay_149 rfl ?_
    obtain ⟨rfl, rfl, rfl, rfl⟩ := g_re4 h
    exact e_zret dX1_lay_150 (by decide)
set_option maxHeartbeats 4000000 in
set_option maxRecDepth 100000 in
theorem w_X1_isLeftBehind_53_1_p164  : ∀ (I : Nat → Int32) (A : Nat → Nat → Int32) (L : Nat → Int64) (t : (Int32 × gS)), f_X1_isLeftBehind_p164 53 1 I A L = some t → Ev 70 RX1 cX1_isLeftBehind 5 (some .boolean) 0 164 [some (.ref 53), none, none, none, none] [] I A L (some (.int t.1), t.2) := by
  intro  I A L t h
  unfold f_X1_isLeftBehind_p164 at h
  refine e_aload_n (pc' := 165) (i := 0) rfl rfl dX1_isLeftBehind_164 rfl ?_
  refine e_getI (a := 53) (n := 855) (k0 := 7) (pc' := 168) dX1_isLeftBehind_165 rfl rfl (Nat.le_of_ble_eq_true rfl) (Nat.le_of_ble_eq_true rfl) rfl mw_206 rfl ?_
  refine e_aload_n (pc' := 169) (i := 0) rfl rfl dX1_isLeftBehind_168 rfl ?_
  refine e_getI (a := 53) (n := 858) (k0 := 10) (pc' := 172) dX1_isLeftBehind_169 rfl rfl (Nat.le_of_ble_eq_true rfl) (Nat.le_of_ble_eq_true rfl) rfl mw_212 rfl ?_
  refine e_imul (pc' := 173) dX1_isLeftBehind_172 rfl ?_
  refine e_aload_n (pc' := 174) (i := 0) rfl rfl dX1_isLeftBehind_173 rfl ?_
  refine e_getI (a := 53) (n := 857) (k0 := 9) (pc' := 177) dX1_isLeftBehind_174 rfl rfl (Nat.le_of_ble_eq_true rfl) (Nat.le_of_ble_eq_true rfl) rfl mw_210 rfl ?_
  refine e_aload_n (pc' := 178) (i := 0) rfl rfl dX1_isLeftBehind_177 rfl ?_
  refine e_getI (a := 53) (n := 856) (k0 := 8) (pc' := 181) dX1_isLeftBehind_178 rfl rfl (Nat.le_of_ble_eq_true rfl) (Nat.le_of_ble_eq_true rfl) rfl mw_208 rfl ?_
  refine e_imul (pc' := 182) dX1_isLeftBehind_181 rfl ?_
  refine e_icmp_gt (tgt := 189) (pc' := 185) dX1_isLeftBehind_182 (by decide) rfl h (fun h => ?_) (fun h => ?_)
  · refine e_iconst (v := 0) (pc' := 190) (by decide) dX1_isLeftBehind_189 rfl ?_
    obtain rfl := g_re1 h
    exact e_zret dX1_isLeftBehind_190 (by decide)
  · refine e_iconst (v := 1) (pc' := 186) (by decide) dX1_isLeftBehind_185 rfl ?_
    refine e_goto (tgt := 190) dX1_isLeftBehind_186 (by decide) ?_
    obtain rfl := g_re1 h
    exact e_zret dX1_isLeftBehind_190 (by decide)
set_option maxHeartbeats 4000000 in
set_option maxRecDepth 100000 in
theorem w_X1_isLeftBehind_53_1_p131  : ∀ (x3 : Int32) (x4 : Int32) (I : Nat → Int32) (A : Nat → Nat → Int32) (L : Nat → Int64) (t : (Int32 × gS)), f_X1_isLeftBehind_p131 53 1 x3 x4 I A L = some t → Ev 70 RX1 cX1_isLeftBehind 5 (some .boolean) 0 131 [some (.ref 53), none, none, some (.int x3), some (.int x4)] [] I A L (some (.int t.1), t.2) := by
  intro x3 x4 I A L t h
  unfold f_X1_isLeftBehind_p131 at h
  refine e_iload_n (pc' := 132) (i := 3) rfl rfl dX1_isLeftBehind_131 rfl ?_
  refine e_if_ge (tgt := 164) (pc' := 135) dX1_isLeftBehind_132 (by decide) rfl h (fun h => ?_) (fun h => ?_)
  · exact e_weak (lc' := [some (.ref 53), none, none, none, none]) (gle_s (gle_n (gle_n (gle_n (gle_n gle_0))))) (w_X1_isLeftBehind_53_1_p164  _ _ _ _ h)
  · refine e_aload_n (pc' := 136) (i := 0) rfl rfl dX1_isLeftBehind_135 rfl ?_
    refine e_getI (a := 53) (n := 855) (k0 := 7) (pc' := 139) dX1_isLeftBehind_136 rfl rfl (Nat.le_of_ble_eq_true rfl) (Nat.le_of_ble_eq_true rfl) rfl mw_206 rfl ?_
    refine e_iload_n (pc' := 140) (i := 3) rfl rfl dX1_isLeftBehind_139 rfl ?_
    refine e_imul (pc' := 141) dX1_isLeftBehind_140 rfl ?_
    refine e_iload (pc' := 143) (i := 4) rfl dX1_isLeftBehind_141 rfl ?_
    refine e_aload_n (pc' := 144) (i := 0) rfl rfl dX1_isLeftBehind_143 rfl ?_
    refine e_getI (a := 53) (n := 856) (k0 := 8) (pc' := 147) dX1_isLeftBehind_144 rfl rfl (Nat.le_of_ble_eq_true rfl) (Nat.le_of_ble_eq_true rfl) rfl mw_208 rfl ?_
    refine e_imul (pc' := 148) dX1_isLeftBehind_147 rfl ?_
    refine e_icmp_le (tgt := 164) (pc' := 151) dX1_isLeftBehind_148 (by decide) rfl h (fun h => ?_) (fun h => ?_)
    · exact e_weak (lc' := [some (.ref 53), none, none, none, none]) (gle_s (gle_n (gle_n (gle_n (gle_n gle_0))))) (w_X1_isLeftBehind_53_1_p164  _ _ _ _ h)
    · refine e_aload_n (pc' := 152) (i := 0) rfl rfl dX1_isLeftBehind_151 rfl ?_
      refine e_iload (pc' := 154) (i := 4) rfl dX1_isLeftBehind_152 rfl ?_
      refine e_ineg (pc' := 155) dX1_isLeftBehind_154 rfl ?_
      refine e_putI (a := 53) (n := 855) (k0 := 7) (pc' := 158) dX1_isLeftBehind_155 rfl rfl (Nat.le_of_ble_eq_true rfl) (Nat.le_of_ble_eq_true rfl) rfl mw_206 rfl rfl g_pI rfl rfl ?_
      refine e_ltI h (fun I1 h => ?_)
      refine e_aload_n (pc' := 159) (i := 0) rfl rfl dX1_isLeftBehind_158 rfl ?_
      refine e_iload_n (pc' := 160) (i := 3) rfl rfl dX1_isLeftBehind_159 rfl ?_
      refine e_ineg (pc' := 161) dX1_isLeftBehind_160 rfl ?_
      refine e_putI (a := 53) (n := 856) (k0 := 8) (pc' := 164) dX1_isLeftBehind_161 rfl rfl (Nat.le_of_ble_eq_true rfl) (Nat.le_of_ble_eq_true rfl) rfl mw_208 rfl rfl g_pI rfl rfl ?_
      refine e_ltI h (fun I2 h => ?_)
      exact e_weak (lc' := [some (.ref 53), none, none, none, none]) (gle_s (gle_n (gle_n (gle_n (gle_n gle_0))))) (w_X1_isLeftBehind_53_1_p164  _ _ _ _ h)
set_option maxHeartbeats 4000000 in
set_option maxRecDepth 100000 in
theorem c_X1_isLeftBehind_53_1 (a0 : Int32) {I : Nat → Int32} {A : Nat → Nat → Int32} {L : Nat → Int64} {t : Int32} {I' : Nat → Int32} {A' : Nat → Nat → Int32} {L' : Nat → Int64} (h : f_X1_isLeftBehind 53 1 a0 I A L = some (t, I', A', L')) : GM 70 yX1_isLeftBehind cX1_isLeftBehind 5 (some .boolean) 0 [.ref 53, .ref 1, .int a0] I A L (some (.int t), (I', A', L')) := by
  refine gm_of (n := 2) (lc := [some (.ref 53), some (.ref 1), some (.int a0), none, none]) (by decide +kernel) rfl (fun _ => Nat.le_of_ble_eq_true rfl) ?_
  change Ev 70 RX1 cX1_isLeftBehind 5 (some .boolean) 0 0 [some (.ref 53), some (.ref 1), some (.int a0), none, none] [] I A L _
  unfold f_X1_isLeftBehind at h
  refine e_aload_n (pc' := 1) (i := 1) rfl rfl dX1_isLeftBehind_0 rfl ?_
  refine e_getRN (a := 1) (b := 2) (k0 := 0) (pc' := 4) dX1_isLeftBehind_1 rfl rfl (Nat.le_of_ble_eq_true rfl) (Nat.le_of_ble_eq_true rfl) rfl mw_127 rfl ?_
  refine e_iload_n (pc' := 5) (i := 2) rfl rfl dX1_isLeftBehind_4 rfl ?_
  refine e_iald (n := 32) (pc' := 6) dX1_isLeftBehind_5 rfl rfl (Nat.le_of_ble_eq_true rfl) h (fun h => ?_)
  refine e_aload_n (pc' := 7) (i := 0) rfl rfl dX1_isLeftBehind_6 rfl ?_
  refine e_getI (a := 53) (n := 848) (k0 := 0) (pc' := 10) dX1_isLeftBehind_7 rfl rfl (Nat.le_of_ble_eq_true rfl) (Nat.le_of_ble_eq_true rfl) rfl mw_191 rfl ?_
  refine e_imul (pc' := 11) dX1_isLeftBehind_10 rfl ?_
  refine e_aload_n (pc' := 12) (i := 1) rfl rfl dX1_isLeftBehind_11 rfl ?_
  refine e_getRN (a := 1) (b := 3) (k0 := 1) (pc' := 15) dX1_isLeftBehind_12 rfl rfl (Nat.le_of_ble_eq_true rfl) (Nat.le_of_ble_eq_true rfl) rfl mw_131 rfl ?_
  refine e_iload_n (pc' := 16) (i := 2) rfl rfl dX1_isLeftBehind_15 rfl ?_
  refine e_iald (n := 32) (pc' := 17) dX1_isLeftBehind_16 rfl rfl (Nat.le_of_ble_eq_true rfl) h (fun h => ?_)
  refine e_aload_n (pc' := 18) (i := 0) rfl rfl dX1_isLeftBehind_17 rfl ?_
  refine e_getI (a := 53) (n := 849) (k0 := 1) (pc' := 21) dX1_isLeftBehind_18 rfl rfl (Nat.le_of_ble_eq_true rfl) (Nat.le_of_ble_eq_true rfl) rfl mw_193 rfl ?_
  refine e_imul (pc' := 22) dX1_isLeftBehind_21 rfl ?_
  refine e_iadd (pc' := 23) dX1_isLeftBehind_22 rfl ?_
  refine e_aload_n (pc' := 24) (i := 1) rfl rfl dX1_isLeftBehind_23 rfl ?_
  refine e_getRN (a := 1) (b := 4) (k0 := 2) (pc' := 27) dX1_isLeftBehind_24 rfl rfl (Nat.le_of_ble_eq_true rfl) (Nat.le_of_ble_eq_true rfl) rfl mw_135 rfl ?_
  refine e_iload_n (pc' := 28) (i := 2) rfl rfl dX1_isLeftBehind_27 rfl ?_
  refine e_iald (n := 32) (pc' := 29) dX1_isLeftBehind_28 rfl rfl (Nat.le_of_ble_eq_true rfl) h (fun h => ?_)
  refine e_aload_n (pc' := 30) (i := 0) rfl rfl dX1_isLeftBehind_29 rfl ?_
  refine e_getI (a := 53) (n := 850) (k0 := 2) (pc' := 33) dX1_isLeftBehind_30 rfl rfl (Nat.le_of_ble_eq_true rfl) (Nat.le_of_ble_eq_true rfl) rfl mw_195 rfl ?_
  refine e_imul (pc' := 34) dX1_isLeftBehind_33 rfl ?_
  refine e_iadd (pc' := 35) dX1_isLeftBehind_34 rfl ?_
  refine e_lt h (fun v1 h => ?_)
  refine e_istore_n (pc' := 36) (i := 3) (lc' := [some (.ref 53), some (.ref 1), some (.int a0), some (.int v1), none]) rfl dX1_isLeftBehind_35 rfl (Nat.le_of_ble_eq_true rfl) rfl rfl ?_
  refine e_aload_n (pc' := 37) (i := 1) rfl rfl dX1_isLeftBehind_36 rfl ?_
  refine e_getRN (a := 1) (b := 5) (k0 := 3) (pc' := 40) dX1_isLeftBehind_37 rfl rfl (Nat.le_of_ble_eq_true rfl) (Nat.le_of_ble_eq_true rfl) rfl mw_139 rfl ?_
  refine e_iload_n (pc' := 41) (i := 2) rfl rfl dX1_isLeftBehind_40 rfl ?_
  refine e_iald (n := 32) (pc' := 42) dX1_isLeftBehind_41 rfl rfl (Nat.le_of_ble_eq_true rfl) h (fun h => ?_)
  refine e_aload_n (pc' := 43) (i := 0) rfl rfl dX1_isLeftBehind_42 rfl ?_
  refine e_getI (a := 53) (n := 854) (k0 := 6) (pc' := 46) dX1_isLeftBehind_43 rfl rfl (Nat.le_of_ble_eq_true rfl) (Nat.le_of_ble_eq_true rfl) rfl mw_203 rfl ?_
  refine e_imul (pc' := 47) dX1_isLeftBehind_46 rfl ?_
  refine e_aload_n (pc' := 48) (i := 1) rfl rfl dX1_isLeftBehind_47 rfl ?_
  refine e_getRN (a := 1) (b := 2) (k0 := 0) (pc' := 51) dX1_isLeftBehind_48 rfl rfl (Nat.le_of_ble_eq_true rfl) (Nat.le_of_ble_eq_true rfl) rfl mw_127 rfl ?_
  refine e_iload_n (pc' := 52) (i := 2) rfl rfl dX1_isLeftBehind_51 rfl ?_
  refine e_iald (n := 32) (pc' := 53) dX1_isLeftBehind_52 rfl rfl (Nat.le_of_ble_eq_true rfl) h (fun h => ?_)
  refine e_aload_n (pc' := 54) (i := 0) rfl rfl dX1_isLeftBehind_53 rfl ?_
  refine e_getI (a := 53) (n := 851) (k0 := 3) (pc' := 57) dX1_isLeftBehind_54 rfl rfl (Nat.le_of_ble_eq_true rfl) (Nat.le_of_ble_eq_true rfl) rfl mw_197 rfl ?_
  refine e_imul (pc' := 58) dX1_isLeftBehind_57 rfl ?_
  refine e_isub (pc' := 59) dX1_isLeftBehind_58 rfl ?_
  refine e_aload_n (pc' := 60) (i := 1) rfl rfl dX1_isLeftBehind_59 rfl ?_
  refine e_getRN (a := 1) (b := 3) (k0 := 1) (pc' := 63) dX1_isLeftBehind_60 rfl rfl (Nat.le_of_ble_eq_true rfl) (Nat.le_of_ble_eq_true rfl) rfl mw_131 rfl ?_
  refine e_iload_n (pc' := 64) (i := 2) rfl rfl dX1_isLeftBehind_63 rfl ?_
  refine e_iald (n := 32) (pc' := 65) dX1_isLeftBehind_64 rfl rfl (Nat.le_of_ble_eq_true rfl) h (fun h => ?_)
  refine e_aload_n (pc' := 66) (i := 0) rfl rfl dX1_isLeftBehind_65 rfl ?_
  refine e_getI (a := 53) (n := 852) (k0 := 4) (pc' := 69) dX1_isLeftBehind_66 rfl rfl (Nat.le_of_ble_eq_true rfl) (Nat.le_of_ble_eq_true rfl) rfl mw_199 rfl ?_
  refine e_imul (pc' := 70) dX1_isLeftBehind_69 rfl ?_
  refine e_isub (pc' := 71) dX1_isLeftBehind_70 rfl ?_
  refine e_aload_n (pc' := 72) (i := 1) rfl rfl dX1_isLeftBehind_71 rfl ?_
  refine e_getRN (a := 1) (b := 4) (k0 := 2) (pc' := 75) dX1_isLeftBehind_72 rfl rfl (Nat.le_of_ble_eq_true rfl) (Nat.le_of_ble_eq_true rfl) rfl mw_135 rfl ?_
  refine e_iload_n (pc' := 76) (i := 2) rfl rfl dX1_isLeftBehind_75 rfl ?_
  refine e_iald (n := 32) (pc' := 77) dX1_isLeftBehind_76 rfl rfl (Nat.le_of_ble_eq_true rfl) h (fun h => ?_)
  refine e_aload_n (pc' := 78) (i := 0) rfl rfl dX1_isLeftBehind_77 rfl ?_
  refine e_getI (a := 53) (n := 853) (k0 := 5) (pc' := 81) dX1_isLeftBehind_78 rfl rfl (Nat.le_of_ble_eq_true rfl) (Nat.le_of_ble_eq_true rfl) rfl mw_201 rfl ?_
  refine e_imul (pc' := 82) dX1_isLeftBehind_81 rfl ?_
  refine e_isub (pc' := 83) dX1_isLeftBehind_82 rfl ?_
  refine e_lt h (fun v2 h => ?_)
  refine e_istore (pc' := 85) (i := 4) (lc' := [some (.ref 53), some (.ref 1), some (.int a0), some (.int v1), some (.int v2)]) dX1_isLeftBehind_83 rfl (Nat.le_of_ble_eq_true rfl) rfl rfl ?_
  refine e_iload_n (pc' := 86) (i := 3) rfl rfl dX1_isLeftBehind_85 rfl ?_
  refine e_if_ne (tgt := 100) (pc' := 89) dX1_isLeftBehind_86 (by decide) rfl h (fun h => ?_) (fun h => ?_)
  · refine e_iload_n (pc' := 101) (i := 3) rfl rfl dX1_isLeftBehind_100 rfl ?_
    refine e_if_le (tgt := 131) (pc' := 104) dX1_isLeftBehind_101 (by decide) rfl h (fun h => ?_) (fun h => ?_)
    · exact e_weak (lc' := [some (.ref 53), none, none, some (.int v1), some (.int v2)]) (gle_s (gle_n (gle_n (gle_s (gle_s gle_0))))) (w_X1_isLeftBehind_53_1_p131  _ _ _ _ _ _ h)
    · refine e_iload (pc' := 106) (i := 4) rfl dX1_isLeftBehind_104 rfl ?_
      refine e_aload_n (pc' := 107) (i := 0) rfl rfl dX1_isLeftBehind_106 rfl ?_
      refine e_getI (a := 53) (n := 858) (k0 := 10) (pc' := 110) dX1_isLeftBehind_107 rfl rfl (Nat.le_of_ble_eq_true rfl) (Nat.le_of_ble_eq_true rfl) rfl mw_212 rfl ?_
      refine e_imul (pc' := 111) dX1_isLeftBehind_110 rfl ?_
      refine e_aload_n (pc' := 112) (i := 0) rfl rfl dX1_isLeftBehind_111 rfl ?_
      refine e_getI (a := 53) (n := 857) (k0 := 9) (pc' := 115) dX1_isLeftBehind_112 rfl rfl (Nat.le_of_ble_eq_true rfl) (Nat.le_of_ble_eq_true rfl) rfl mw_210 rfl ?_
      refine e_iload_n (pc' := 116) (i := 3) rfl rfl dX1_isLeftBehind_115 rfl ?_
      refine e_imul (pc' := 117) dX1_isLeftBehind_116 rfl ?_
      refine e_icmp_ge (tgt := 131) (pc' := 120) dX1_isLeftBehind_117 (by decide) rfl h (fun h => ?_) (fun h => ?_)
      · exact e_weak (lc' := [some (.ref 53), none, none, some (.int v1), some (.int v2)]) (gle_s (gle_n (gle_n (gle_s (gle_s gle_0))))) (w_X1_isLeftBehind_53_1_p131  _ _ _ _ _ _ h)
      · refine e_aload_n (pc' := 121) (i := 0) rfl rfl dX1_isLeftBehind_120 rfl ?_
        refine e_iload (pc' := 123) (i := 4) rfl dX1_isLeftBehind_121 rfl ?_
        refine e_putI (a := 53) (n := 857) (k0 := 9) (pc' := 126) dX1_isLeftBehind_123 rfl rfl (Nat.le_of_ble_eq_true rfl) (Nat.le_of_ble_eq_true rfl) rfl mw_210 rfl rfl g_pI rfl rfl ?_
        refine e_ltI h (fun I3 h => ?_)
        refine e_aload_n (pc' := 127) (i := 0) rfl rfl dX1_isLeftBehind_126 rfl ?_
        refine e_iload_n (pc' := 128) (i := 3) rfl rfl dX1_isLeftBehind_127 rfl ?_
        refine e_putI (a := 53) (n := 858) (k0 := 10) (pc' := 131) dX1_isLeftBehind_128 rfl rfl (Nat.le_of_ble_eq_true rfl) (Nat.le_of_ble_eq_true rfl) rfl mw_212 rfl rfl g_pI rfl rfl ?_
        refine e_ltI h (fun I4 h => ?_)
        exact e_weak (lc' := [some (.ref 53), none, none, some (.int v1), some (.int v2)]) (gle_s (gle_n (gle_n (gle_s (gle_s gle_0))))) (w_X1_isLeftBehind_53_1_p131  _ _ _ _ _ _ h)
  · refine e_iload (pc' := 91) (i := 4) rfl dX1_isLeftBehind_89 rfl ?_
    refine e_if_lt (tgt := 98) (pc' := 94) dX1_isLeftBehind_91 (by decide) rfl h (fun h => ?_) (fun h => ?_)
    · refine e_iconst (v := 0) (pc' := 99) (by decide) dX1_isLeftBehind_98 rfl ?_
      obtain ⟨rfl, rfl, rfl, rfl⟩ := g_re4 h
      exact e_zret dX1_isLeftBehind_99 (by decide)
    · refine e_iconst (v := 1) (pc' := 95) (by decide) dX1_isLeftBehind_94 rfl ?_
      refine e_goto (tgt := 99) dX1_isLeftBehind_95 (by decide) ?_
      obtain ⟨rfl, rfl, rfl, rfl⟩ := g_re4 h
      exact e_zret dX1_isLeftBehind_99 (by decide)
set_option maxHeartbeats 4000000 in
set_option maxRecDepth 100000 in
theorem w_X1_isLeftBy_53_1_p2  : ∀ (n : Nat) (x2 : Int32) (x3 : Int32) (I : Nat → Int32) (A : Nat → Nat → Int32) (L : Nat → Int64) (t : (Int32 × gS)), f_X1_isLeftBy_p2 53 1 n x2 x3 I A L = some t → Ev 70 RX1 cX1_isLeftBy 4 (some .boolean) 1 2 [some (.ref 53), some (.ref 1), some (.int x2), some (.int x3)] [] I A L (some (.int t.1), t.2) := by
  intro n
  induction n with
  | zero =>
    intro x2 x3 I A L t h
    cases h
  | succ n ih =>
    intro x2 x3 I A L t h
    rw [f_X1_isLeftBy_p2] at h
    refine e_iload_n (pc' := 3) (i := 3) rfl rfl dX1_isLeftBy_2 rfl ?_
    refine e_aload_n (pc' := 4) (i := 1) rfl rfl dX1_isLeftBy_3 rfl ?_
    refine e_getIN (a := 1) (n := 20) (k0 := 4) (pc' := 7) dX1_isLeftBy_4 rfl rfl (Nat.le_of_ble_eq_true rfl) (Nat.le_of_ble_eq_true rfl) rfl mw_145 rfl ?_
    refine e_icmp_ge (tgt := 32) (pc' := 10) dX1_isLeftBy_7 (by decide) rfl h (fun h => ?_) (fun h => ?_)
    · refine e_iconst (v := 1) (pc' := 33) (by decide) dX1_isLeftBy_32 rfl ?_
      obtain rfl := g_re1 h
      exact e_zret dX1_isLeftBy_33 (by decide)
    · refine e_iload_n (pc' := 11) (i := 3) rfl rfl dX1_isLeftBy_10 rfl ?_
      refine e_iload_n (pc' := 12) (i := 2) rfl rfl dX1_isLeftBy_11 rfl ?_
      refine e_icmp_eq (tgt := 26) (pc' := 15) dX1_isLeftBy_12 (by decide) rfl h (fun h => ?_) (fun h => ?_)
      · refine e_iinc (pc' := 29) (v := (x3 + 1)) (lc' := [some (.ref 53), some (.ref 1), some (.int x2), some (.int (x3 + 1))]) dX1_isLeftBy_26 rfl rfl rfl (Nat.le_of_ble_eq_true rfl) rfl rfl ?_
        refine e_goto (tgt := 2) dX1_isLeftBy_29 (by decide) ?_
        exact e_weak (lc' := [some (.ref 53), some (.ref 1), some (.int x2), some (.int (x3 + 1))]) (gle_s (gle_s (gle_s (gle_s gle_0)))) (ih _ _ _ _ _ _ h)
      · refine e_aload_n (pc' := 16) (i := 0) rfl rfl dX1_isLeftBy_15 rfl ?_
        refine e_aload_n (pc' := 17) (i := 1) rfl rfl dX1_isLeftBy_16 rfl ?_
        refine e_iload_n (pc' := 18) (i := 3) rfl rfl dX1_isLeftBy_17 rfl ?_
        obtain ⟨v5, I2, A3, L4, hF1, h⟩ := g_b2_e h
        refine e_callV_i (pc' := 21) dX1_isLeftBy_18 rfl mw_519 mv_X1_isLeftBehind rfl (Nat.le_of_ble_eq_true rfl) (Nat.le_of_ble_eq_true rfl) rfl (Nat.le_of_ble_eq_true rfl) (Nat.le_of_ble_eq_true rfl) rfl (c_X1_isLeftBehind_53_1 _ hF1) rfl ?_
        refine e_if_ne (tgt := 26) (pc' := 24) dX1_isLeftBy_21 (by decide) rfl h (fun h => ?_) (fun h => ?_)
        · refine e_iinc (pc' := 29) (v := (x3 + 1)) (lc' := [some (.ref 53), some (.ref 1), some (.int x2), some (.int (x3 + 1))]) dX1_isLeftBy_26 rfl rfl rfl (Nat.le_of_ble_eq_true rfl) rfl rfl ?_
          refine e_goto (tgt := 2) dX1_isLeftBy_29 (by decide) ?_
          exact e_weak (lc' := [some (.ref 53), some (.ref 1), some (.int x2), some (.int (x3 + 1))]) (gle_s (gle_s (gle_s (gle_s gle_0)))) (ih _ _ _ _ _ _ h)
        · refine e_iconst (v := 0) (pc' := 25) (by decide) dX1_isLeftBy_24 rfl ?_
          obtain rfl := g_re1 h
          exact e_zret dX1_isLeftBy_25 (by decide)
set_option maxHeartbeats 4000000 in
set_option maxRecDepth 100000 in
theorem c_X1_isLeftBy_53_1 (a0 : Int32) {I : Nat → Int32} {A : Nat → Nat → Int32} {L : Nat → Int64} {t : Int32} {I' : Nat → Int32} {A' : Nat → Nat → Int32} {L' : Nat → Int64} (h : f_X1_isLeftBy 53 1 a0 I A L = some (t, I', A', L')) : GM 70 yX1_isLeftBy cX1_isLeftBy 4 (some .boolean) 1 [.ref 53, .ref 1, .int a0] I A L (some (.int t), (I', A', L')) := by
  refine gm_of (n := 1) (lc := [some (.ref 53), some (.ref 1), some (.int a0), none]) (by decide +kernel) rfl (fun _ => Nat.le_of_ble_eq_true rfl) ?_
  change Ev 70 RX1 cX1_isLeftBy 4 (some .boolean) 1 0 [some (.ref 53), some (.ref 1), some (.int a0), none] [] I A L _
  unfold f_X1_isLeftBy at h
  refine e_iconst (v := 0) (pc' := 1) (by decide) dX1_isLeftBy_0 rfl ?_
  refine e_istore_n (pc' := 2) (i := 3) (lc' := [some (.ref 53), some (.ref 1), some (.int a0), some (.int 0)]) rfl dX1_isLeftBy_1 rfl (Nat.le_of_ble_eq_true rfl) rfl rfl ?_
  exact e_weak (lc' := [some (.ref 53), some (.ref 1), some (.int a0), some (.int 0)]) (gle_s (gle_s (gle_s (gle_s gle_0)))) (w_X1_isLeftBy_53_1_p2  _ _ _ _ _ _ _ h)
set_option maxHeartbeats 4000000 in
set_option maxRecDepth 100000 in
theorem w_X4_putCorner_46_p16  : ∀ (n : Nat) (x1 : Int32) (x2 : Int32) (x3 : Int32) (x4 : Int32) (x5 : Int32) (x6 : Int32) (I : Nat → Int32) (A : Nat → Nat → Int32) (L : Nat → Int64) (t : gS), f_X4_putCorner_p16 46 n x1 x2 x3 x4 x5 x6 I A L = some t → Ev 70 RX4 cX4_putCorner 7 none 0 16 [some (.ref 46), some (.int x1), some (.int x2), some (.int x3), some (.int x4), some (.int x5), some (.int x6)] [] I A L (none, t) := by
  intro n
  induction n with
  | zero =>
    intro x1 x2 x3 x4 x5 x6 I A L t h
    cases h
  | succ n ih =>
    intro x1 x2 x3 x4 x5 x6 I A L t h
    rw [f_X4_putCorner_p16] at h
    refine e_iload (pc' := 18) (i := 6) rfl dX4_putCorner_16 rfl ?_
    refine e_iload_n (pc' := 19) (i := 1) rfl rfl dX4_putCorner_18 rfl ?_
    refine e_icmp_le (tgt := 92) (pc' := 22) dX4_putCorner_19 (by decide) rfl h (fun h => ?_) (fun h => ?_)
    · refine e_aload_n (pc' := 93) (i := 0) rfl rfl dX4_putCorner_92 rfl ?_
      refine e_getR (a := 46) (b := 47) (k0 := 0) (pc' := 96) dX4_putCorner_93 rfl rfl (Nat.le_of_ble_eq_true rfl) (Nat.le_of_ble_eq_true rfl) rfl mw_236 rfl ?_
      refine e_iload_n (pc' := 97) (i := 1) rfl rfl dX4_putCorner_96 rfl ?_
      refine e_iload_n (pc' := 98) (i := 2) rfl rfl dX4_putCorner_97 rfl ?_
      refine e_iast (n := 60) (pc' := 99) dX4_putCorner_98 rfl rfl (Nat.le_of_ble_eq_true rfl) h (fun h => ?_)
      refine e_ltA h (fun A1 h => ?_)
      refine e_aload_n (pc' := 100) (i := 0) rfl rfl dX4_putCorner_99 rfl ?_
      refine e_getR (a := 46) (b := 48) (k0 := 1) (pc' := 103) dX4_putCorner_100 rfl rfl (Nat.le_of_ble_eq_true rfl) (Nat.le_of_ble_eq_true rfl) rfl mw_237 rfl ?_
      refine e_iload_n (pc' := 104) (i := 1) rfl rfl dX4_putCorner_103 rfl ?_
      refine e_iload_n (pc' := 105) (i := 3) rfl rfl dX4_putCorner_104 rfl ?_
      refine e_iast (n := 60) (pc' := 106) dX4_putCorner_105 rfl rfl (Nat.le_of_ble_eq_true rfl) h (fun h => ?_)
      refine e_ltA h (fun A2 h => ?_)
      refine e_aload_n (pc' := 107) (i := 0) rfl rfl dX4_putCorner_106 rfl ?_
      refine e_getR (a := 46) (b := 49) (k0 := 2) (pc' := 110) dX4_putCorner_107 rfl rfl (Nat.le_of_ble_eq_true rfl) (Nat.le_of_ble_eq_true rfl) rfl mw_238 rfl ?_
      refine e_iload_n (pc' := 111) (i := 1) rfl rfl dX4_putCorner_110 rfl ?_
      refine e_iload (pc' := 113) (i := 4) rfl dX4_putCorner_111 rfl ?_
      refine e_iast (n := 60) (pc' := 114) dX4_putCorner_113 rfl rfl (Nat.le_of_ble_eq_true rfl) h (fun h => ?_)
      refine e_ltA h (fun A3 h => ?_)
      refine e_aload_n (pc' := 115) (i := 0) rfl rfl dX4_putCorner_114 rfl ?_
      refine e_getR (a := 46) (b := 50) (k0 := 3) (pc' := 118) dX4_putCorner_115 rfl rfl (Nat.le_of_ble_eq_true rfl) (Nat.le_of_ble_eq_true rfl) rfl mw_239 rfl ?_
      refine e_iload_n (pc' := 119) (i := 1) rfl rfl dX4_putCorner_118 rfl ?_
      refine e_iload (pc' := 121) (i := 5) rfl dX4_putCorner_119 rfl ?_
      refine e_iast (n := 60) (pc' := 122) dX4_putCorner_121 rfl rfl (Nat.le_of_ble_eq_true rfl) h (fun h => ?_)
      refine e_ltA h (fun A4 h => ?_)
      refine e_aload_n (pc' := 123) (i := 0) rfl rfl dX4_putCorner_122 rfl ?_
      refine e_dup (pc' := 124) rfl dX4_putCorner_123 rfl ?_
      refine e_getI (a := 46) (n := 743) (k0 := 7) (pc' := 127) dX4_putCorner_124 rfl rfl (Nat.le_of_ble_eq_true rfl) (Nat.le_of_ble_eq_true rfl) rfl mw_246 rfl ?_
      refine e_iconst (v := 1) (pc' := 128) (by decide) dX4_putCorner_127 rfl ?_
      refine e_iadd (pc' := 129) dX4_putCorner_128 rfl ?_
      refine e_putI (a := 46) (n := 743) (k0 := 7) (pc' := 132) dX4_putCorner_129 rfl rfl (Nat.le_of_ble_eq_true rfl) (Nat.le_of_ble_eq_true rfl) rfl mw_246 rfl rfl g_pI rfl rfl ?_
      refine e_ltI h (fun I5 h => ?_)
      obtain rfl := g_re1 h
      exact e_vret dX4_putCorner_132
    · refine e_aload_n (pc' := 23) (i := 0) rfl rfl dX4_putCorner_22 rfl ?_
      refine e_getR (a := 46) (b := 47) (k0 := 0) (pc' := 26) dX4_putCorner_23 rfl rfl (Nat.le_of_ble_eq_true rfl) (Nat.le_of_ble_eq_true rfl) rfl mw_236 rfl ?_
      refine e_iload (pc' := 28) (i := 6) rfl dX4_putCorner_26 rfl ?_
      refine e_aload_n (pc' := 29) (i := 0) rfl rfl dX4_putCorner_28 rfl ?_
      refine e_getR (a := 46) (b := 47) (k0 := 0) (pc' := 32) dX4_putCorner_29 rfl rfl (Nat.le_of_ble_eq_true rfl) (Nat.le_of_ble_eq_true rfl) rfl mw_236 rfl ?_
      refine e_iload (pc' := 34) (i := 6) rfl dX4_putCorner_32 rfl ?_
      refine e_iconst (v := 1) (pc' := 35) (by decide) dX4_putCorner_34 rfl ?_
      refine e_isub (pc' := 36) dX4_putCorner_35 rfl ?_
      refine e_iald (n := 60) (pc' := 37) dX4_putCorner_36 rfl rfl (Nat.le_of_ble_eq_true rfl) h (fun h => ?_)
      refine e_iast (n := 60) (pc' := 38) dX4_putCorner_37 rfl rfl (Nat.le_of_ble_eq_true rfl) h (fun h => ?_)
      refine e_ltA h (fun A6 h => ?_)
      refine e_aload_n (pc' := 39) (i := 0) rfl rfl dX4_putCorner_38 rfl ?_
      refine e_getR (a := 46) (b := 48) (k0 := 1) (pc' := 42) dX4_putCorner_39 rfl rfl (Nat.le_of_ble_eq_true rfl) (Nat.le_of_ble_eq_true rfl) rfl mw_237 rfl ?_
      refine e_iload (pc' := 44) (i := 6) rfl dX4_putCorner_42 rfl ?_
      refine e_aload_n (pc' := 45) (i := 0) rfl rfl dX4_putCorner_44 rfl ?_
      refine e_getR (a := 46) (b := 48) (k0 := 1) (pc' := 48) dX4_putCorner_45 rfl rfl (Nat.le_of_ble_eq_true rfl) (Nat.le_of_ble_eq_true rfl) rfl mw_237 rfl ?_
      refine e_iload (pc' := 50) (i := 6) rfl dX4_putCorner_48 rfl ?_
      refine e_iconst (v := 1) (pc' := 51) (by decide) dX4_putCorner_50 rfl ?_
      refine e_isub (pc' := 52) dX4_putCorner_51 rfl ?_
      refine e_iald (n := 60) (pc' := 53) dX4_putCorner_52 rfl rfl (Nat.le_of_ble_eq_true rfl) h (fun h => ?_)
      refine e_iast (n := 60) (pc' := 54) dX4_putCorner_53 rfl rfl (Nat.le_of_ble_eq_true rfl) h (fun h => ?_)
      refine e_ltA h (fun A7 h => ?_)
      refine e_aload_n (pc' := 55) (i := 0) rfl rfl dX4_putCorner_54 rfl ?_
      refine e_getR (a := 46) (b := 49) (k0 := 2) (pc' := 58) dX4_putCorner_55 rfl rfl (Nat.le_of_ble_eq_true rfl) (Nat.le_of_ble_eq_true rfl) rfl mw_238 rfl ?_
      refine e_iload (pc' := 60) (i := 6) rfl dX4_putCorner_58 rfl ?_
      refine e_aload_n (pc' := 61) (i := 0) rfl rfl dX4_putCorner_60 rfl ?_
      refine e_getR (a := 46) (b := 49) (k0 := 2) (pc' := 64) dX4_putCorner_61 rfl rfl (Nat.le_of_ble_eq_true rfl) (Nat.le_of_ble_eq_true rfl) rfl mw_238 rfl ?_
      refine e_iload (pc' := 66) (i := 6) rfl dX4_putCorner_64 rfl ?_
      refine e_iconst (v := 1) (pc' := 67) (by decide) dX4_putCorner_66 rfl ?_
      refine e_isub (pc' := 68) dX4_putCorner_67 rfl ?_
      refine e_iald (n := 60) (pc' := 69) dX4_putCorner_68 rfl rfl (Nat.le_of_ble_eq_true rfl) h (fun h => ?_)
      refine e_iast (n := 60) (pc' := 70) dX4_putCorner_69 rfl rfl (Nat.le_of_ble_eq_true rfl) h (fun h => ?_)
      refine e_ltA h (fun A8 h => ?_)
      refine e_aload_n (pc' := 71) (i := 0) rfl rfl dX4_putCorner_70 rfl ?_
      refine e_getR (a := 46) (b := 50) (k0 := 3) (pc' := 74) dX4_putCorner_71 rfl rfl (Nat.le_of_ble_eq_true rfl) (Nat.le_of_ble_eq_true rfl) rfl mw_239 rfl ?_
      refine e_iload (pc' := 76) (i := 6) rfl dX4_putCorner_74 rfl ?_
      refine e_aload_n (pc' := 77) (i := 0) rfl rfl dX4_putCorner_76 rfl ?_
      refine e_getR (a := 46) (b := 50) (k0 := 3) (pc' := 80) dX4_putCorner_77 rfl rfl (Nat.le_of_ble_eq_true rfl) (Nat.le_of_ble_eq_true rfl) rfl mw_239 rfl ?_
      refine e_iload (pc' := 82) (i := 6) rfl dX4_putCorner_80 rfl ?_
      refine e_iconst (v := 1) (pc' := 83) (by decide) dX4_putCorner_82 rfl ?_
      refine e_isub (pc' := 84) dX4_putCorner_83 rfl ?_
      refine e_iald (n := 60) (pc' := 85) dX4_putCorner_84 rfl rfl (Nat.le_of_ble_eq_true rfl) h (fun h => ?_)
      refine e_iast (n := 60) (pc' := 86) dX4_putCorner_85 rfl rfl (Nat.le_of_ble_eq_true rfl) h (fun h => ?_)
      refine e_ltA h (fun A9 h => ?_)
      refine e_iinc (pc' := 89) (v := (x6 + (-1))) (lc' := [some (.ref 46), some (.int x1), some (.int x2), some (.int x3), some (.int x4), some (.int x5), some (.int (x6 + (-1)))]) dX4_putCorner_86 rfl rfl rfl (Nat.le_of_ble_eq_true rfl) rfl rfl ?_
      refine e_goto (tgt := 16) dX4_putCorner_89 (by decide) ?_
      exact e_weak (lc' := [some (.ref 46), some (.int x1), some (.int x2), some (.int x3), some (.int x4), some (.int x5), some (.int (x6 + (-1)))]) (gle_s (gle_s (gle_s (gle_s (gle_s (gle_s (gle_s gle_0))))))) (ih _ _ _ _ _ _ _ _ _ _ h)
set_option maxHeartbeats 4000000 in
set_option maxRecDepth 100000 in
theorem c_X4_putCorner_46 (a0 : Int32) (a1 : Int32) (a2 : Int32) (a3 : Int32) (a4 : Int32) {I : Nat → Int32} {A : Nat → Nat → Int32} {L : Nat → Int64} {I' : Nat → Int32} {A' : Nat → Nat → Int32} {L' : Nat → Int64} (h : f_X4_putCorner 46 a0 a1 a2 a3 a4 I A L = some (I', A', L')) : GM 70 yX4_putCorner cX4_putCorner 7 none 0 [.ref 46, .int a0, .int a1, .int a2, .int a3, .int a4] I A L (none, (I', A', L')) := by
  refine gm_of (n := 1) (lc := [some (.ref 46), some (.int a0), some (.int a1), some (.int a2), some (.int a3), some (.int a4), none]) (by decide +kernel) rfl (fun _ => Nat.le_of_ble_eq_true rfl) ?_
  change Ev 70 RX4 cX4_putCorner 7 none 0 0 [some (.ref 46), some (.int a0), some (.int a1), some (.int a2), some (.int a3), some (.int a4), none] [] I A L _
  unfold f_X4_putCorner at h
  refine e_aload_n (pc' := 1) (i := 0) rfl rfl dX4_putCorner_0 rfl ?_
  refine e_getI (a := 46) (n := 743) (k0 := 7) (pc' := 4) dX4_putCorner_1 rfl rfl (Nat.le_of_ble_eq_true rfl) (Nat.le_of_ble_eq_true rfl) rfl mw_246 rfl ?_
  refine e_bipush (v := 60) (pc' := 6) (by decide) dX4_putCorner_4 rfl ?_
  refine e_icmp_lt (tgt := 10) (pc' := 9) dX4_putCorner_6 (by decide) rfl h (fun h => ?_) (fun h => ?_)
  · refine e_aload_n (pc' := 11) (i := 0) rfl rfl dX4_putCorner_10 rfl ?_
    refine e_getI (a := 46) (n := 743) (k0 := 7) (pc' := 14) dX4_putCorner_11 rfl rfl (Nat.le_of_ble_eq_true rfl) (Nat.le_of_ble_eq_true rfl) rfl mw_246 rfl ?_
    refine e_lt h (fun v1 h => ?_)
    refine e_istore (pc' := 16) (i := 6) (lc' := [some (.ref 46), some (.int a0), some (.int a1), some (.int a2), some (.int a3), some (.int a4), some (.int v1)]) dX4_putCorner_14 rfl (Nat.le_of_ble_eq_true rfl) rfl rfl ?_
    exact e_weak (lc' := [some (.ref 46), some (.int a0), some (.int a1), some (.int a2), some (.int a3), some (.int a4), some (.int v1)]) (gle_s (gle_s (gle_s (gle_s (gle_s (gle_s (gle_s gle_0))))))) (w_X4_putCorner_46_p16  _ _ _ _ _ _ _ _ _ _ _ h)
  · obtain ⟨rfl, rfl, rfl⟩ := g_re3 h
    exact e_vret dX4_putCorner_9
set_option maxHeartbeats 4000000 in
set_option maxRecDepth 100000 in
theorem c_X4_order_46 (a0 : Int32) (a1 : Int32) (a2 : Int32) (a3 : Int32) (a4 : Int32) {I : Nat → Int32} {A : Nat → Nat → Int32} {L : Nat → Int64} {t : Int32} (h : f_X4_order 46 I A L a0 a1 a2 a3 a4 = some t) : GM 70 yX4_order cX4_order 9 (some .int) 0 [.ref 46, .int a0, .int a1, .int a2, .int a3, .int a4] I A L (some (.int t), (I, A, L)) := by
  refine gm_of (n := 3) (lc := [some (.ref 46), some (.int a0), some (.int a1), some (.int a2), some (.int a3), some (.int a4), none, none, none]) (by decide +kernel) rfl (fun _ => Nat.le_of_ble_eq_true rfl) ?_
  change Ev 70 RX4 cX4_order 9 (some .int) 0 0 [some (.ref 46), some (.int a0), some (.int a1), some (.int a2), some (.int a3), some (.int a4), none, none, none] [] I A L _
  unfold f_X4_order at h
  refine e_aload_n (pc' := 1) (i := 0) rfl rfl dX4_order_0 rfl ?_
  refine e_getR (a := 46) (b := 47) (k0 := 0) (pc' := 4) dX4_order_1 rfl rfl (Nat.le_of_ble_eq_true rfl) (Nat.le_of_ble_eq_true rfl) rfl mw_236 rfl ?_
  refine e_iload_n (pc' := 5) (i := 1) rfl rfl dX4_order_4 rfl ?_
  refine e_iald (n := 60) (pc' := 6) dX4_order_5 rfl rfl (Nat.le_of_ble_eq_true rfl) h (fun h => ?_)
  refine e_iload (pc' := 8) (i := 5) rfl dX4_order_6 rfl ?_
  refine e_imul (pc' := 9) dX4_order_8 rfl ?_
  refine e_iload_n (pc' := 10) (i := 2) rfl rfl dX4_order_9 rfl ?_
  refine e_aload_n (pc' := 11) (i := 0) rfl rfl dX4_order_10 rfl ?_
  refine e_getR (a := 46) (b := 50) (k0 := 3) (pc' := 14) dX4_order_11 rfl rfl (Nat.le_of_ble_eq_true rfl) (Nat.le_of_ble_eq_true rfl) rfl mw_239 rfl ?_
  refine e_iload_n (pc' := 15) (i := 1) rfl rfl dX4_order_14 rfl ?_
  refine e_iald (n := 60) (pc' := 16) dX4_order_15 rfl rfl (Nat.le_of_ble_eq_true rfl) h (fun h => ?_)
  refine e_imul (pc' := 17) dX4_order_16 rfl ?_
  refine e_isub (pc' := 18) dX4_order_17 rfl ?_
  refine e_lt h (fun v1 h => ?_)
  refine e_istore (pc' := 20) (i := 6) (lc' := [some (.ref 46), some (.int a0), some (.int a1), some (.int a2), some (.int a3), some (.int a4), some (.int v1), none, none]) dX4_order_18 rfl (Nat.le_of_ble_eq_true rfl) rfl rfl ?_
  refine e_aload_n (pc' := 21) (i := 0) rfl rfl dX4_order_20 rfl ?_
  refine e_getR (a := 46) (b := 48) (k0 := 1) (pc' := 24) dX4_order_21 rfl rfl (Nat.le_of_ble_eq_true rfl) (Nat.le_of_ble_eq_true rfl) rfl mw_237 rfl ?_
  refine e_iload_n (pc' := 25) (i := 1) rfl rfl dX4_order_24 rfl ?_
  refine e_iald (n := 60) (pc' := 26) dX4_order_25 rfl rfl (Nat.le_of_ble_eq_true rfl) h (fun h => ?_)
  refine e_iload (pc' := 28) (i := 5) rfl dX4_order_26 rfl ?_
  refine e_imul (pc' := 29) dX4_order_28 rfl ?_
  refine e_iload_n (pc' := 30) (i := 3) rfl rfl dX4_order_29 rfl ?_
  refine e_aload_n (pc' := 31) (i := 0) rfl rfl dX4_order_30 rfl ?_
  refine e_getR (a := 46) (b := 50) (k0 := 3) (pc' := 34) dX4_order_31 rfl rfl (Nat.le_of_ble_eq_true rfl) (Nat.le_of_ble_eq_true rfl) rfl mw_239 rfl ?_
  refine e_iload_n (pc' := 35) (i := 1) rfl rfl dX4_order_34 rfl ?_
  refine e_iald (n := 60) (pc' := 36) dX4_order_35 rfl rfl (Nat.le_of_ble_eq_true rfl) h (fun h => ?_)
  refine e_imul (pc' := 37) dX4_order_36 rfl ?_
  refine e_isub (pc' := 38) dX4_order_37 rfl ?_
  refine e_lt h (fun v2 h => ?_)
  refine e_istore (pc' := 40) (i := 7) (lc' := [some (.ref 46), some (.int a0), some (.int a1), some (.int a2), some (.int a3), some (.int a4), some (.int v1), some (.int v2), none]) dX4_order_38 rfl (Nat.le_of_ble_eq_true rfl) rfl rfl ?_
  refine e_aload_n (pc' := 41) (i := 0) rfl rfl dX4_order_40 rfl ?_
  refine e_getR (a := 46) (b := 49) (k0 := 2) (pc' := 44) dX4_order_41 rfl rfl (Nat.le_of_ble_eq_true rfl) (Nat.le_of_ble_eq_true rfl) rfl mw_238 rfl ?_
  refine e_iload_n (pc' := 45) (i := 1) rfl rfl dX4_order_44 rfl ?_
  refine e_iald (n := 60) (pc' := 46) dX4_order_45 rfl rfl (Nat.le_of_ble_eq_true rfl) h (fun h => ?_)
  refine e_iload (pc' := 48) (i := 5) rfl dX4_order_46 rfl ?_
  refine e_imul (pc' := 49) dX4_order_48 rfl ?_
  refine e_iload (pc' := 51) (i := 4) rfl dX4_order_49 rfl ?_
  refine e_aload_n (pc' := 52) (i := 0) rfl rfl dX4_order_51 rfl ?_
  refine e_getR (a := 46) (b := 50) (k0 := 3) (pc' := 55) dX4_order_52 rfl rfl (Nat.le_of_ble_eq_true rfl) (Nat.le_of_ble_eq_true rfl) rfl mw_239 rfl ?_
  refine e_iload_n (pc' := 56) (i := 1) rfl rfl dX4_order_55 rfl ?_
  refine e_iald (n := 60) (pc' := 57) dX4_order_56 rfl rfl (Nat.le_of_ble_eq_true rfl) h (fun h => ?_)
  refine e_imul (pc' := 58) dX4_order_57 rfl ?_
  refine e_isub (pc' := 59) dX4_order_58 rfl ?_
  refine e_lt h (fun v3 h => ?_)
  refine e_istore (pc' := 61) (i := 8) (lc' := [some (.ref 46), some (.int a0), some (.int a1), some (.int a2), some (.int a3), some (.int a4), some (.int v1), some (.int v2), some (.int v3)]) dX4_order_59 rfl (Nat.le_of_ble_eq_true rfl) rfl rfl ?_
  refine e_iload (pc' := 63) (i := 6) rfl dX4_order_61 rfl ?_
  refine e_if_eq (tgt := 71) (pc' := 66) dX4_order_63 (by decide) rfl h (fun h => ?_) (fun h => ?_)
  · refine e_iload (pc' := 73) (i := 7) rfl dX4_order_71 rfl ?_
    refine e_if_eq (tgt := 81) (pc' := 76) dX4_order_73 (by decide) rfl h (fun h => ?_) (fun h => ?_)
    · refine e_iload (pc' := 83) (i := 8) rfl dX4_order_81 rfl ?_
      obtain rfl := g_re1 h
      exact e_iret dX4_order_83
    · refine e_iload (pc' := 78) (i := 7) rfl dX4_order_76 rfl ?_
      refine e_goto (tgt := 83) dX4_order_78 (by decide) ?_
      obtain rfl := g_re1 h
      exact e_iret dX4_order_83
  · refine e_iload (pc' := 68) (i := 6) rfl dX4_order_66 rfl ?_
    refine e_goto (tgt := 83) dX4_order_68 (by decide) ?_
    obtain rfl := g_re1 h
    exact e_iret dX4_order_83
set_option maxHeartbeats 4000000 in
set_option maxRecDepth 100000 in
theorem w_X4_placeOf_46_p12 (I : Nat → Int32) (A : Nat → Nat → Int32) (L : Nat → Int64) : ∀ (n : Nat) (x1 : Int32) (x2 : Int32) (x3 : Int32) (x4 : Int32) (x5 : Int32) (x6 : Int32) (x7 : Int32) (t : Int32), f_X4_placeOf_p12 46 I A L n x1 x2 x3 x4 x5 x6 x7 = some t → Ev 70 RX4 cX4_placeOf 9 (some .int) 1 12 [some (.ref 46), some (.int x1), some (.int x2), some (.int x3), some (.int x4), some (.int x5), some (.int x6), some (.int x7), none] [] I A L (some (.int t), (I, A, L)) := by
  intro n
  induction n with
  | zero =>
    intro x1 x2 x3 x4 x5 x6 x7 t h
    cases h
  | succ n ih =>
    intro x1 x2 x3 x4 x5 x6 x7 t h
    rw [f_X4_placeOf_p12] at h
    refine e_iload (pc' := 14) (i := 7) rfl dX4_placeOf_12 rfl ?_
    refine e_bipush (v := 60) (pc' := 16) (by decide) dX4_placeOf_14 rfl ?_
    refine e_icmp_ge (tgt := 68) (pc' := 19) dX4_placeOf_16 (by decide) rfl h (fun h => ?_) (fun h => ?_)
    · refine e_iload (pc' := 70) (i := 5) rfl dX4_placeOf_68 rfl ?_
      obtain rfl := g_re1 h
      exact e_iret dX4_placeOf_70
    · refine e_iload (pc' := 21) (i := 5) rfl dX4_placeOf_19 rfl ?_
      refine e_iload (pc' := 23) (i := 6) rfl dX4_placeOf_21 rfl ?_
      refine e_icmp_ge (tgt := 68) (pc' := 26) dX4_placeOf_23 (by decide) rfl h (fun h => ?_) (fun h => ?_)
      · refine e_iload (pc' := 70) (i := 5) rfl dX4_placeOf_68 rfl ?_
        obtain rfl := g_re1 h
        exact e_iret dX4_placeOf_70
      · refine e_iload (pc' := 28) (i := 5) rfl dX4_placeOf_26 rfl ?_
        refine e_iload (pc' := 30) (i := 6) rfl dX4_placeOf_28 rfl ?_
        refine e_iadd (pc' := 31) dX4_placeOf_30 rfl ?_
        refine e_iconst (v := 2) (pc' := 32) (by decide) dX4_placeOf_31 rfl ?_
        refine e_idiv (pc' := 33) (by decide) dX4_placeOf_32 rfl ?_
        refine e_lt h (fun v1 h => ?_)
        refine e_istore (pc' := 35) (i := 8) (lc' := [some (.ref 46), some (.int x1), some (.int x2), some (.int x3), some (.int x4), some (.int x5), some (.int x6), some (.int x7), some (.int v1)]) dX4_placeOf_33 rfl (Nat.le_of_ble_eq_true rfl) rfl rfl ?_
        refine e_aload_n (pc' := 36) (i := 0) rfl rfl dX4_placeOf_35 rfl ?_
        refine e_iload (pc' := 38) (i := 8) rfl dX4_placeOf_36 rfl ?_
        refine e_iload_n (pc' := 39) (i := 1) rfl rfl dX4_placeOf_38 rfl ?_
        refine e_iload_n (pc' := 40) (i := 2) rfl rfl dX4_placeOf_39 rfl ?_
        refine e_iload_n (pc' := 41) (i := 3) rfl rfl dX4_placeOf_40 rfl ?_
        refine e_iload (pc' := 43) (i := 4) rfl dX4_placeOf_41 rfl ?_
        obtain ⟨v3, hF2, h⟩ := g_bd_e h
        refine e_callV_i (pc' := 46) dX4_placeOf_43 rfl mw_537 mv_X4_order rfl (Nat.le_of_ble_eq_true rfl) (Nat.le_of_ble_eq_true rfl) rfl (Nat.le_of_ble_eq_true rfl) (Nat.le_of_ble_eq_true rfl) rfl (c_X4_order_46 _ _ _ _ _ hF2) rfl ?_
        refine e_if_ge (tgt := 58) (pc' := 49) dX4_placeOf_46 (by decide) rfl h (fun h => ?_) (fun h => ?_)
        · refine e_iload (pc' := 60) (i := 8) rfl dX4_placeOf_58 rfl ?_
          refine e_istore (pc' := 62) (i := 6) (lc' := [some (.ref 46), some (.int x1), some (.int x2), some (.int x3), some (.int x4), some (.int x5), some (.int v1), some (.int x7), some (.int v1)]) dX4_placeOf_60 rfl (Nat.le_of_ble_eq_true rfl) rfl rfl ?_
          refine e_iinc (pc' := 65) (v := (x7 + 1)) (lc' := [some (.ref 46), some (.int x1), some (.int x2), some (.int x3), some (.int x4), some (.int x5), some (.int v1), some (.int (x7 + 1)), some (.int v1)]) dX4_placeOf_62 rfl rfl rfl (Nat.le_of_ble_eq_true rfl) rfl rfl ?_
          refine e_goto (tgt := 12) dX4_placeOf_65 (by decide) ?_
          exact e_weak (lc' := [some (.ref 46), some (.int x1), some (.int x2), some (.int x3), some (.int x4), some (.int x5), some (.int v1), some (.int (x7 + 1)), none]) (gle_s (gle_s (gle_s (gle_s (gle_s (gle_s (gle_s (gle_s (gle_n gle_0))))))))) (ih _ _ _ _ _ _ _ _ h)
        · refine e_iload (pc' := 51) (i := 8) rfl dX4_placeOf_49 rfl ?_
          refine e_iconst (v := 1) (pc' := 52) (by decide) dX4_placeOf_51 rfl ?_
          refine e_iadd (pc' := 53) dX4_placeOf_52 rfl ?_
          refine e_istore (pc' := 55) (i := 5) (lc' := [some (.ref 46), some (.int x1), some (.int x2), some (.int x3), some (.int x4), some (.int (v1 + 1)), some (.int x6), some (.int x7), some (.int v1)]) dX4_placeOf_53 rfl (Nat.le_of_ble_eq_true rfl) rfl rfl ?_
          refine e_goto (tgt := 62) dX4_placeOf_55 (by decide) ?_
          refine e_iinc (pc' := 65) (v := (x7 + 1)) (lc' := [some (.ref 46), some (.int x1), some (.int x2), some (.int x3), some (.int x4), some (.int (v1 + 1)), some (.int x6), some (.int (x7 + 1)), some (.int v1)]) dX4_placeOf_62 rfl rfl rfl (Nat.le_of_ble_eq_true rfl) rfl rfl ?_
          refine e_goto (tgt := 12) dX4_placeOf_65 (by decide) ?_
          exact e_weak (lc' := [some (.ref 46), some (.int x1), some (.int x2), some (.int x3), some (.int x4), some (.int (v1 + 1)), some (.int x6), some (.int (x7 + 1)), none]) (gle_s (gle_s (gle_s (gle_s (gle_s (gle_s (gle_s (gle_s (gle_n gle_0))))))))) (ih _ _ _ _ _ _ _ _ h)
set_option maxHeartbeats 4000000 in
set_option maxRecDepth 100000 in
theorem c_X4_placeOf_46 (a0 : Int32) (a1 : Int32) (a2 : Int32) (a3 : Int32) {I : Nat → Int32} {A : Nat → Nat → Int32} {L : Nat → Int64} {t : Int32} (h : f_X4_placeOf 46 I A L a0 a1 a2 a3 = some t) : GM 70 yX4_placeOf cX4_placeOf 9 (some .int) 1 [.ref 46, .int a0, .int a1, .int a2, .int a3] I A L (some (.int t), (I, A, L)) := by
  refine gm_of (n := 4) (lc := [some (.ref 46), some (.int a0), some (.int a1), some (.int a2), some (.int a3), none, none, none, none]) (by decide +kernel) rfl (fun _ => Nat.le_of_ble_eq_true rfl) ?_
  change Ev 70 RX4 cX4_placeOf 9 (some .int) 1 0 [some (.ref 46), some (.int a0), some (.int a1), some (.int a2), some (.int a3), none, none, none, none] [] I A L _
  unfold f_X4_placeOf at h
  refine e_iconst (v := 0) (pc' := 1) (by decide) dX4_placeOf_0 rfl ?_
  refine e_istore (pc' := 3) (i := 5) (lc' := [some (.ref 46), some (.int a0), some (.int a1), some (.int a2), some (.int a3), some (.int 0), none, none, none]) dX4_placeOf_1 rfl (Nat.le_of_ble_eq_true rfl) rfl rfl ?_
  refine e_aload_n (pc' := 4) (i := 0) rfl rfl dX4_placeOf_3 rfl ?_
  refine e_getI (a := 46) (n := 743) (k0 := 7) (pc' := 7) dX4_placeOf_4 rfl rfl (Nat.le_of_ble_eq_true rfl) (Nat.le_of_ble_eq_true rfl) rfl mw_246 rfl ?_
  refine e_lt h (fun v1 h => ?_)
  refine e_istore (pc' := 9) (i := 6) (lc' := [some (.ref 46), some (.int a0), some (.int a1), some (.int a2), some (.int a3), some (.int 0), some (.int v1), none, none]) dX4_placeOf_7 rfl (Nat.le_of_ble_eq_true rfl) rfl rfl ?_
  refine e_iconst (v := 0) (pc' := 10) (by decide) dX4_placeOf_9 rfl ?_
  refine e_istore (pc' := 12) (i := 7) (lc' := [some (.ref 46), some (.int a0), some (.int a1), some (.int a2), some (.int a3), some (.int 0), some (.int v1), some (.int 0), none]) dX4_placeOf_10 rfl (Nat.le_of_ble_eq_true rfl) rfl rfl ?_
  exact e_weak (lc' := [some (.ref 46), some (.int a0), some (.int a1), some (.int a2), some (.int a3), some (.int 0), some (.int v1), some (.int 0), none]) (gle_s (gle_s (gle_s (gle_s (gle_s (gle_s (gle_s (gle_s (gle_n gle_0))))))))) (w_X4_placeOf_46_p12 I A L  _ _ _ _ _ _ _ _ _ h)
set_option maxHeartbeats 4000000 in
set_option maxRecDepth 100000 in
theorem w_X4_keepPoint_46_p166  : ∀ (x3 : Int32) (x4 : Int32) (x5 : Int32) (x6 : Int32) (x8 : Int32) (I : Nat → Int32) (A : Nat → Nat → Int32) (L : Nat → Int64) (t : gS), f_X4_keepPoint_p166 46 x3 x4 x5 x6 x8 I A L = some t → Ev 70 RX4 cX4_keepPoint 9 none 2 166 [some (.ref 46), none, none, some (.int x3), some (.int x4), some (.int x5), some (.int x6), none, some (.int x8)] [] I A L (none, t) := by
  intro x3 x4 x5 x6 x8 I A L t h
  unfold f_X4_keepPoint_p166 at h
  refine e_aload_n (pc' := 167) (i := 0) rfl rfl dX4_keepPoint_166 rfl ?_
  refine e_iload (pc' := 169) (i := 8) rfl dX4_keepPoint_167 rfl ?_
  refine e_iload_n (pc' := 170) (i := 3) rfl rfl dX4_keepPoint_169 rfl ?_
  refine e_iload (pc' := 172) (i := 4) rfl dX4_keepPoint_170 rfl ?_
  refine e_iload (pc' := 174) (i := 5) rfl dX4_keepPoint_172 rfl ?_
  refine e_iload (pc' := 176) (i := 6) rfl dX4_keepPoint_174 rfl ?_
  obtain ⟨I2, A3, L4, hF1, h⟩ := g_b1_e h
  refine e_callV_v (pc' := 179) dX4_keepPoint_176 rfl mw_541 mv_X4_putCorner rfl (Nat.le_of_ble_eq_true rfl) (Nat.le_of_ble_eq_true rfl) rfl (Nat.le_of_ble_eq_true rfl) (Nat.le_of_ble_eq_true rfl) rfl (c_X4_putCorner_46 _ _ _ _ _ hF1) rfl ?_
  obtain rfl := g_re1 h
  exact e_vret dX4_keepPoint_179
set_option maxHeartbeats 4000000 in
set_option maxRecDepth 100000 in
theorem c_X4_keepPoint_46 (a0 : Int32) (a1 : Int32) {I : Nat → Int32} {A : Nat → Nat → Int32} {L : Nat → Int64} {I' : Nat → Int32} {A' : Nat → Nat → Int32} {L' : Nat → Int64} (h : f_X4_keepPoint 46 a0 a1 I A L = some (I', A', L')) : GM 70 yX4_keepPoint cX4_keepPoint 9 none 2 [.ref 46, .int a0, .int a1] I A L (none, (I', A', L')) := by
  refine gm_of (n := 6) (lc := [some (.ref 46), some (.int a0), some (.int a1), none, none, none, none, none, none]) (by decide +kernel) rfl (fun _ => Nat.le_of_ble_eq_true rfl) ?_
  change Ev 70 RX4 cX4_keepPoint 9 none 2 0 [some (.ref 46), some (.int a0), some (.int a1), none, none, none, none, none, none] [] I A L _
  unfold f_X4_keepPoint at h
  refine e_aload_n (pc' := 1) (i := 0) rfl rfl dX4_keepPoint_0 rfl ?_
  refine e_getR (a := 46) (b := 53) (k0 := 6) (pc' := 4) dX4_keepPoint_1 rfl rfl (Nat.le_of_ble_eq_true rfl) (Nat.le_of_ble_eq_true rfl) rfl mw_245 rfl ?_
  refine e_getIN (a := 53) (n := 851) (k0 := 3) (pc' := 7) dX4_keepPoint_4 rfl rfl (Nat.le_of_ble_eq_true rfl) (Nat.le_of_ble_eq_true rfl) rfl mw_198 rfl ?_
  refine e_iload_n (pc' := 8) (i := 2) rfl rfl dX4_keepPoint_7 rfl ?_
  refine e_imul (pc' := 9) dX4_keepPoint_8 rfl ?_
  refine e_aload_n (pc' := 10) (i := 0) rfl rfl dX4_keepPoint_9 rfl ?_
  refine e_getR (a := 46) (b := 53) (k0 := 6) (pc' := 13) dX4_keepPoint_10 rfl rfl (Nat.le_of_ble_eq_true rfl) (Nat.le_of_ble_eq_true rfl) rfl mw_245 rfl ?_
  refine e_getIN (a := 53) (n := 848) (k0 := 0) (pc' := 16) dX4_keepPoint_13 rfl rfl (Nat.le_of_ble_eq_true rfl) (Nat.le_of_ble_eq_true rfl) rfl mw_192 rfl ?_
  refine e_iload_n (pc' := 17) (i := 1) rfl rfl dX4_keepPoint_16 rfl ?_
  refine e_imul (pc' := 18) dX4_keepPoint_17 rfl ?_
  refine e_iadd (pc' := 19) dX4_keepPoint_18 rfl ?_
  refine e_lt h (fun v1 h => ?_)
  refine e_istore_n (pc' := 20) (i := 3) (lc' := [some (.ref 46), some (.int a0), some (.int a1), some (.int v1), none, none, none, none, none]) rfl dX4_keepPoint_19 rfl (Nat.le_of_ble_eq_true rfl) rfl rfl ?_
  refine e_aload_n (pc' := 21) (i := 0) rfl rfl dX4_keepPoint_20 rfl ?_
  refine e_getR (a := 46) (b := 53) (k0 := 6) (pc' := 24) dX4_keepPoint_21 rfl rfl (Nat.le_of_ble_eq_true rfl) (Nat.le_of_ble_eq_true rfl) rfl mw_245 rfl ?_
  refine e_getIN (a := 53) (n := 852) (k0 := 4) (pc' := 27) dX4_keepPoint_24 rfl rfl (Nat.le_of_ble_eq_true rfl) (Nat.le_of_ble_eq_true rfl) rfl mw_200 rfl ?_
  refine e_iload_n (pc' := 28) (i := 2) rfl rfl dX4_keepPoint_27 rfl ?_
  refine e_imul (pc' := 29) dX4_keepPoint_28 rfl ?_
  refine e_aload_n (pc' := 30) (i := 0) rfl rfl dX4_keepPoint_29 rfl ?_
  refine e_getR (a := 46) (b := 53) (k0 := 6) (pc' := 33) dX4_keepPoint_30 rfl rfl (Nat.le_of_ble_eq_true rfl) (Nat.le_of_ble_eq_true rfl) rfl mw_245 rfl ?_
  refine e_getIN (a := 53) (n := 849) (k0 := 1) (pc' := 36) dX4_keepPoint_33 rfl rfl (Nat.le_of_ble_eq_true rfl) (Nat.le_of_ble_eq_true rfl) rfl mw_194 rfl ?_
  refine e_iload_n (pc' := 37) (i := 1) rfl rfl dX4_keepPoint_36 rfl ?_
  refine e_imul (pc' := 38) dX4_keepPoint_37 rfl ?_
  refine e_iadd (pc' := 39) dX4_keepPoint_38 rfl ?_
  refine e_lt h (fun v2 h => ?_)
  refine e_istore (pc' := 41) (i := 4) (lc' := [some (.ref 46), some (.int a0), some (.int a1), some (.int v1), some (.int v2), none, none, none, none]) dX4_keepPoint_39 rfl (Nat.le_of_ble_eq_true rfl) rfl rfl ?_
  refine e_aload_n (pc' := 42) (i := 0) rfl rfl dX4_keepPoint_41 rfl ?_
  refine e_getR (a := 46) (b := 53) (k0 := 6) (pc' := 45) dX4_keepPoint_42 rfl rfl (Nat.le_of_ble_eq_true rfl) (Nat.le_of_ble_eq_true rfl) rfl mw_245 rfl ?_
  refine e_getIN (a := 53) (n := 853) (k0 := 5) (pc' := 48) dX4_keepPoint_45 rfl rfl (Nat.le_of_ble_eq_true rfl) (Nat.le_of_ble_eq_true rfl) rfl mw_202 rfl ?_
  refine e_iload_n (pc' := 49) (i := 2) rfl rfl dX4_keepPoint_48 rfl ?_
  refine e_imul (pc' := 50) dX4_keepPoint_49 rfl ?_
  refine e_aload_n (pc' := 51) (i := 0) rfl rfl dX4_keepPoint_50 rfl ?_
  refine e_getR (a := 46) (b := 53) (k0 := 6) (pc' := 54) dX4_keepPoint_51 rfl rfl (Nat.le_of_ble_eq_true rfl) (Nat.le_of_ble_eq_true rfl) rfl mw_245 rfl ?_
  refine e_getIN (a := 53) (n := 850) (k0 := 2) (pc' := 57) dX4_keepPoint_54 rfl rfl (Nat.le_of_ble_eq_true rfl) (Nat.le_of_ble_eq_true rfl) rfl mw_196 rfl ?_
  refine e_iload_n (pc' := 58) (i := 1) rfl rfl dX4_keepPoint_57 rfl ?_
  refine e_imul (pc' := 59) dX4_keepPoint_58 rfl ?_
  refine e_iadd (pc' := 60) dX4_keepPoint_59 rfl ?_
  refine e_lt h (fun v3 h => ?_)
  refine e_istore (pc' := 62) (i := 5) (lc' := [some (.ref 46), some (.int a0), some (.int a1), some (.int v1), some (.int v2), some (.int v3), none, none, none]) dX4_keepPoint_60 rfl (Nat.le_of_ble_eq_true rfl) rfl rfl ?_
  refine e_aload_n (pc' := 63) (i := 0) rfl rfl dX4_keepPoint_62 rfl ?_
  refine e_getR (a := 46) (b := 53) (k0 := 6) (pc' := 66) dX4_keepPoint_63 rfl rfl (Nat.le_of_ble_eq_true rfl) (Nat.le_of_ble_eq_true rfl) rfl mw_245 rfl ?_
  refine e_getIN (a := 53) (n := 854) (k0 := 6) (pc' := 69) dX4_keepPoint_66 rfl rfl (Nat.le_of_ble_eq_true rfl) (Nat.le_of_ble_eq_true rfl) rfl mw_204 rfl ?_
  refine e_iload_n (pc' := 70) (i := 2) rfl rfl dX4_keepPoint_69 rfl ?_
  refine e_imul (pc' := 71) dX4_keepPoint_70 rfl ?_
  refine e_lt h (fun v4 h => ?_)
  refine e_istore (pc' := 73) (i := 6) (lc' := [some (.ref 46), some (.int a0), some (.int a1), some (.int v1), some (.int v2), some (.int v3), some (.int v4), none, none]) dX4_keepPoint_71 rfl (Nat.le_of_ble_eq_true rfl) rfl rfl ?_
  refine e_iload_n (pc' := 74) (i := 3) rfl rfl dX4_keepPoint_73 rfl ?_
  refine e_iload (pc' := 76) (i := 4) rfl dX4_keepPoint_74 rfl ?_
  obtain ⟨v6, hF5, h⟩ := g_bd_e h
  refine e_callSN_i (pc' := 79) dX4_keepPoint_76 rfl mw_527 ms_X6_commonDivisor rfl (Nat.le_of_ble_eq_true rfl) (Nat.le_of_ble_eq_true rfl) (c_X6_commonDivisor _ _ hF5) rfl ?_
  refine e_iload (pc' := 81) (i := 5) rfl dX4_keepPoint_79 rfl ?_
  refine e_iload (pc' := 83) (i := 6) rfl dX4_keepPoint_81 rfl ?_
  obtain ⟨v8, hF7, h⟩ := g_bd_e h
  refine e_callSN_i (pc' := 86) dX4_keepPoint_83 rfl mw_527 ms_X6_commonDivisor rfl (Nat.le_of_ble_eq_true rfl) (Nat.le_of_ble_eq_true rfl) (c_X6_commonDivisor _ _ hF7) rfl ?_
  obtain ⟨v10, hF9, h⟩ := g_bd_e h
  refine e_callSN_i (pc' := 89) dX4_keepPoint_86 rfl mw_527 ms_X6_commonDivisor rfl (Nat.le_of_ble_eq_true rfl) (Nat.le_of_ble_eq_true rfl) (c_X6_commonDivisor _ _ hF9) rfl ?_
  refine e_istore (pc' := 91) (i := 7) (lc' := [some (.ref 46), some (.int a0), some (.int a1), some (.int v1), some (.int v2), some (.int v3), some (.int v4), some (.int v10), none]) dX4_keepPoint_89 rfl (Nat.le_of_ble_eq_true rfl) rfl rfl ?_
  refine e_iload (pc' := 93) (i := 6) rfl dX4_keepPoint_91 rfl ?_
  refine e_if_le (tgt := 101) (pc' := 96) dX4_keepPoint_93 (by decide) rfl h (fun h => ?_) (fun h => ?_)
  · obtain ⟨rfl, rfl, rfl⟩ := g_re3 h
    exact e_vret dX4_keepPoint_101
  · refine e_iload (pc' := 98) (i := 7) rfl dX4_keepPoint_96 rfl ?_
    refine e_if_gt (tgt := 102) (pc' := 101) dX4_keepPoint_98 (by decide) rfl h (fun h => ?_) (fun h => ?_)
    · refine e_iload_n (pc' := 103) (i := 3) rfl rfl dX4_keepPoint_102 rfl ?_
      refine e_iload (pc' := 105) (i := 7) rfl dX4_keepPoint_103 rfl ?_
      obtain ⟨hz11, h⟩ := g_dv_e h
      refine e_idiv (pc' := 106) hz11 dX4_keepPoint_105 rfl ?_
      refine e_istore_n (pc' := 107) (i := 3) (lc' := [some (.ref 46), some (.int a0), some (.int a1), some (.int (v1 / v10)), some (.int v2), some (.int v3), some (.int v4), some (.int v10), none]) rfl dX4_keepPoint_106 rfl (Nat.le_of_ble_eq_true rfl) rfl rfl ?_
      refine e_iload (pc' := 109) (i := 4) rfl dX4_keepPoint_107 rfl ?_
      refine e_iload (pc' := 111) (i := 7) rfl dX4_keepPoint_109 rfl ?_
      obtain ⟨hz12, h⟩ := g_dv_e h
      refine e_idiv (pc' := 112) hz12 dX4_keepPoint_111 rfl ?_
      refine e_istore (pc' := 114) (i := 4) (lc' := [some (.ref 46), some (.int a0), some (.int a1), some (.int (v1 / v10)), some (.int (v2 / v10)), some (.int v3), some (.int v4), some (.int v10), none]) dX4_keepPoint_112 rfl (Nat.le_of_ble_eq_true rfl) rfl rfl ?_
      refine e_iload (pc' := 116) (i := 5) rfl dX4_keepPoint_114 rfl ?_
      refine e_iload (pc' := 118) (i := 7) rfl dX4_keepPoint_116 rfl ?_
      obtain ⟨hz13, h⟩ := g_dv_e h
      refine e_idiv (pc' := 119) hz13 dX4_keepPoint_118 rfl ?_
      refine e_istore (pc' := 121) (i := 5) (lc' := [some (.ref 46), some (.int a0), some (.int a1), some (.int (v1 / v10)), some (.int (v2 / v10)), some (.int (v3 / v10)), some (.int v4), some (.int v10), none]) dX4_keepPoint_119 rfl (Nat.le_of_ble_eq_true rfl) rfl rfl ?_
      refine e_iload (pc' := 123) (i := 6) rfl dX4_keepPoint_121 rfl ?_
      refine e_iload (pc' := 125) (i := 7) rfl dX4_keepPoint_123 rfl ?_
      obtain ⟨hz14, h⟩ := g_dv_e h
      refine e_idiv (pc' := 126) hz14 dX4_keepPoint_125 rfl ?_
      refine e_istore (pc' := 128) (i := 6) (lc' := [some (.ref 46), some (.int a0), some (.int a1), some (.int (v1 / v10)), some (.int (v2 / v10)), some (.int (v3 / v10)), some (.int (v4 / v10)), some (.int v10), none]) dX4_keepPoint_126 rfl (Nat.le_of_ble_eq_true rfl) rfl rfl ?_
      refine e_aload_n (pc' := 129) (i := 0) rfl rfl dX4_keepPoint_128 rfl ?_
      refine e_iload_n (pc' := 130) (i := 3) rfl rfl dX4_keepPoint_129 rfl ?_
      refine e_iload (pc' := 132) (i := 4) rfl dX4_keepPoint_130 rfl ?_
      refine e_iload (pc' := 134) (i := 5) rfl dX4_keepPoint_132 rfl ?_
      refine e_iload (pc' := 136) (i := 6) rfl dX4_keepPoint_134 rfl ?_
      obtain ⟨v16, hF15, h⟩ := g_bd_e h
      refine e_callV_i (pc' := 139) dX4_keepPoint_136 rfl mw_533 mv_X4_placeOf rfl (Nat.le_of_ble_eq_true rfl) (Nat.le_of_ble_eq_true rfl) rfl (Nat.le_of_ble_eq_true rfl) (Nat.le_of_ble_eq_true rfl) rfl (c_X4_placeOf_46 _ _ _ _ hF15) rfl ?_
      refine e_istore (pc' := 141) (i := 8) (lc' := [some (.ref 46), some (.int a0), some (.int a1), some (.int (v1 / v10)), some (.int (v2 / v10)), some (.int (v3 / v10)), some (.int (v4 / v10)), some (.int v10), some (.int v16)]) dX4_keepPoint_139 rfl (Nat.le_of_ble_eq_true rfl) rfl rfl ?_
      refine e_iload (pc' := 143) (i := 8) rfl dX4_keepPoint_141 rfl ?_
      refine e_aload_n (pc' := 144) (i := 0) rfl rfl dX4_keepPoint_143 rfl ?_
      refine e_getI (a := 46) (n := 743) (k0 := 7) (pc' := 147) dX4_keepPoint_144 rfl rfl (Nat.le_of_ble_eq_true rfl) (Nat.le_of_ble_eq_true rfl) rfl mw_246 rfl ?_
      refine e_icmp_ge (tgt := 166) (pc' := 150) dX4_keepPoint_147 (by decide) rfl h (fun h => ?_) (fun h => ?_)
      · exact e_weak (lc' := [some (.ref 46), none, none, some (.int (v1 / v10)), some (.int (v2 / v10)), some (.int (v3 / v10)), some (.int (v4 / v10)), none, some (.int v16)]) (gle_s (gle_n (gle_n (gle_s (gle_s (gle_s (gle_s (gle_n (gle_s gle_0))))))))) (w_X4_keepPoint_46_p166  _ _ _ _ _ _ _ _ _ h)
      · refine e_aload_n (pc' := 151) (i := 0) rfl rfl dX4_keepPoint_150 rfl ?_
        refine e_iload (pc' := 153) (i := 8) rfl dX4_keepPoint_151 rfl ?_
        refine e_iload_n (pc' := 154) (i := 3) rfl rfl dX4_keepPoint_153 rfl ?_
        refine e_iload (pc' := 156) (i := 4) rfl dX4_keepPoint_154 rfl ?_
        refine e_iload (pc' := 158) (i := 5) rfl dX4_keepPoint_156 rfl ?_
        refine e_iload (pc' := 160) (i := 6) rfl dX4_keepPoint_158 rfl ?_
        obtain ⟨v18, hF17, h⟩ := g_bd_e h
        refine e_callV_i (pc' := 163) dX4_keepPoint_160 rfl mw_537 mv_X4_order rfl (Nat.le_of_ble_eq_true rfl) (Nat.le_of_ble_eq_true rfl) rfl (Nat.le_of_ble_eq_true rfl) (Nat.le_of_ble_eq_true rfl) rfl (c_X4_order_46 _ _ _ _ _ hF17) rfl ?_
        refine e_if_eq (tgt := 179) (pc' := 166) dX4_keepPoint_163 (by decide) rfl h (fun h => ?_) (fun h => ?_)
        · obtain ⟨rfl, rfl, rfl⟩ := g_re3 h
          exact e_vret dX4_keepPoint_179
        · exact e_weak (lc' := [some (.ref 46), none, none, some (.int (v1 / v10)), some (.int (v2 / v10)), some (.int (v3 / v10)), some (.int (v4 / v10)), none, some (.int v16)]) (gle_s (gle_n (gle_n (gle_s (gle_s (gle_s (gle_s (gle_n (gle_s gle_0))))))))) (w_X4_keepPoint_46_p166  _ _ _ _ _ _ _ _ _ h)
    · obtain ⟨rfl, rfl, rfl⟩ := g_re3 h
      exact e_vret dX4_keepPoint_101
set_option maxHeartbeats 4000000 in
set_option maxRecDepth 100000 in
theorem w_X4_cut_46_1_p20  (k7 : Int32 → Int32 → (Nat → Int32) → (Nat → Nat → Int32) → (Nat → Int64) → Option gS) (hk7 : ∀ (x2 : Int32) (x3 : Int32) (I : Nat → Int32) (A : Nat → Nat → Int32) (L : Nat → Int64) (t : gS), k7 x2 x3 I A L = some t → Ev 70 RX4 cX4_cut 5 none 3 7 [some (.ref 46), some (.ref 1), some (.int x2), some (.int x3), none] [] I A L (none, t)) : ∀ (n : Nat) (x2 : Int32) (x3 : Int32) (x4 : Int32) (I : Nat → Int32) (A : Nat → Nat → Int32) (L : Nat → Int64) (t : gS), f_X4_cut_p20 46 1 k7 n x2 x3 x4 I A L = some t → Ev 70 RX4 cX4_cut 5 none 3 20 [some (.ref 46), some (.ref 1), some (.int x2), some (.int x3), some (.int x4)] [] I A L (none, t) := by
  intro n
  induction n with
  | zero =>
    intro x2 x3 x4 I A L t h
    cases h
  | succ n ih =>
    intro x2 x3 x4 I A L t h
    rw [f_X4_cut_p20] at h
    refine e_iload (pc' := 22) (i := 4) rfl dX4_cut_20 rfl ?_
    refine e_aload_n (pc' := 23) (i := 1) rfl rfl dX4_cut_22 rfl ?_
    refine e_getIN (a := 1) (n := 20) (k0 := 4) (pc' := 26) dX4_cut_23 rfl rfl (Nat.le_of_ble_eq_true rfl) (Nat.le_of_ble_eq_true rfl) rfl mw_143 rfl ?_
    refine e_icmp_ge (tgt := 108) (pc' := 29) dX4_cut_26 (by decide) rfl h (fun h => ?_) (fun h => ?_)
    · refine e_iinc (pc' := 111) (v := (x3 + 1)) (lc' := [some (.ref 46), some (.ref 1), some (.int x2), some (.int (x3 + 1)), some (.int x4)]) dX4_cut_108 rfl rfl rfl (Nat.le_of_ble_eq_true rfl) rfl rfl ?_
      refine e_goto (tgt := 7) dX4_cut_111 (by decide) ?_
      exact e_weak (lc' := [some (.ref 46), some (.ref 1), some (.int x2), some (.int (x3 + 1)), none]) (gle_s (gle_s (gle_s (gle_s (gle_n gle_0))))) (hk7 _ _ _ _ _ _ h)
    · refine e_iload_n (pc' := 30) (i := 3) rfl rfl dX4_cut_29 rfl ?_
      refine e_iload_n (pc' := 31) (i := 2) rfl rfl dX4_cut_30 rfl ?_
      refine e_icmp_eq (tgt := 102) (pc' := 34) dX4_cut_31 (by decide) rfl h (fun h => ?_) (fun h => ?_)
      · refine e_iinc (pc' := 105) (v := (x4 + 1)) (lc' := [some (.ref 46), some (.ref 1), some (.int x2), some (.int x3), some (.int (x4 + 1))]) dX4_cut_102 rfl rfl rfl (Nat.le_of_ble_eq_true rfl) rfl rfl ?_
        refine e_goto (tgt := 20) dX4_cut_105 (by decide) ?_
        exact e_weak (lc' := [some (.ref 46), some (.ref 1), some (.int x2), some (.int x3), some (.int (x4 + 1))]) (gle_s (gle_s (gle_s (gle_s (gle_s gle_0))))) (ih _ _ _ _ _ _ _ h)
      · refine e_iload (pc' := 36) (i := 4) rfl dX4_cut_34 rfl ?_
        refine e_iload_n (pc' := 37) (i := 2) rfl rfl dX4_cut_36 rfl ?_
        refine e_icmp_eq (tgt := 102) (pc' := 40) dX4_cut_37 (by decide) rfl h (fun h => ?_) (fun h => ?_)
        · refine e_iinc (pc' := 105) (v := (x4 + 1)) (lc' := [some (.ref 46), some (.ref 1), some (.int x2), some (.int x3), some (.int (x4 + 1))]) dX4_cut_102 rfl rfl rfl (Nat.le_of_ble_eq_true rfl) rfl rfl ?_
          refine e_goto (tgt := 20) dX4_cut_105 (by decide) ?_
          exact e_weak (lc' := [some (.ref 46), some (.ref 1), some (.int x2), some (.int x3), some (.int (x4 + 1))]) (gle_s (gle_s (gle_s (gle_s (gle_s gle_0))))) (ih _ _ _ _ _ _ _ h)
        · refine e_aload_n (pc' := 41) (i := 0) rfl rfl dX4_cut_40 rfl ?_
          refine e_getR (a := 46) (b := 53) (k0 := 6) (pc' := 44) dX4_cut_41 rfl rfl (Nat.le_of_ble_eq_true rfl) (Nat.le_of_ble_eq_true rfl) rfl mw_245 rfl ?_
          refine e_aload_n (pc' := 45) (i := 1) rfl rfl dX4_cut_44 rfl ?_
          refine e_iload_n (pc' := 46) (i := 3) rfl rfl dX4_cut_45 rfl ?_
          refine e_iload (pc' := 48) (i := 4) rfl dX4_cut_46 rfl ?_
          obtain ⟨v5, I2, A3, L4, hF1, h⟩ := g_b2_e h
          refine e_callVN_i (pc' := 51) dX4_cut_48 rfl mw_511 mv_X1_lay rfl (Nat.le_of_ble_eq_true rfl) (Nat.le_of_ble_eq_true rfl) rfl (Nat.le_of_ble_eq_true rfl) (Nat.le_of_ble_eq_true rfl) rfl (c_X1_lay_53_1 _ _ hF1) rfl ?_
          refine e_if_eq (tgt := 102) (pc' := 54) dX4_cut_51 (by decide) rfl h (fun h => ?_) (fun h => ?_)
          · refine e_iinc (pc' := 105) (v := (x4 + 1)) (lc' := [some (.ref 46), some (.ref 1), some (.int x2), some (.int x3), some (.int (x4 + 1))]) dX4_cut_102 rfl rfl rfl (Nat.le_of_ble_eq_true rfl) rfl rfl ?_
            refine e_goto (tgt := 20) dX4_cut_105 (by decide) ?_
            exact e_weak (lc' := [some (.ref 46), some (.ref 1), some (.int x2), some (.int x3), some (.int (x4 + 1))]) (gle_s (gle_s (gle_s (gle_s (gle_s gle_0))))) (ih _ _ _ _ _ _ _ h)
          · refine e_aload_n (pc' := 55) (i := 0) rfl rfl dX4_cut_54 rfl ?_
            refine e_getR (a := 46) (b := 53) (k0 := 6) (pc' := 58) dX4_cut_55 rfl rfl (Nat.le_of_ble_eq_true rfl) (Nat.le_of_ble_eq_true rfl) rfl mw_245 rfl ?_
            refine e_aload_n (pc' := 59) (i := 1) rfl rfl dX4_cut_58 rfl ?_
            refine e_iload_n (pc' := 60) (i := 2) rfl rfl dX4_cut_59 rfl ?_
            obtain ⟨v10, I7, A8, L9, hF6, h⟩ := g_b2_e h
            refine e_callVN_i (pc' := 63) dX4_cut_60 rfl mw_515 mv_X1_isLeftBy rfl (Nat.le_of_ble_eq_true rfl) (Nat.le_of_ble_eq_true rfl) rfl (Nat.le_of_ble_eq_true rfl) (Nat.le_of_ble_eq_true rfl) rfl (c_X1_isLeftBy_53_1 _ hF6) rfl ?_
            refine e_if_eq (tgt := 102) (pc' := 66) dX4_cut_63 (by decide) rfl h (fun h => ?_) (fun h => ?_)
            · refine e_iinc (pc' := 105) (v := (x4 + 1)) (lc' := [some (.ref 46), some (.ref 1), some (.int x2), some (.int x3), some (.int (x4 + 1))]) dX4_cut_102 rfl rfl rfl (Nat.le_of_ble_eq_true rfl) rfl rfl ?_
              refine e_goto (tgt := 20) dX4_cut_105 (by decide) ?_
              exact e_weak (lc' := [some (.ref 46), some (.ref 1), some (.int x2), some (.int x3), some (.int (x4 + 1))]) (gle_s (gle_s (gle_s (gle_s (gle_s gle_0))))) (ih _ _ _ _ _ _ _ h)
            · refine e_aload_n (pc' := 67) (i := 0) rfl rfl dX4_cut_66 rfl ?_
              refine e_aload_n (pc' := 68) (i := 0) rfl rfl dX4_cut_67 rfl ?_
              refine e_getR (a := 46) (b := 53) (k0 := 6) (pc' := 71) dX4_cut_68 rfl rfl (Nat.le_of_ble_eq_true rfl) (Nat.le_of_ble_eq_true rfl) rfl mw_245 rfl ?_
              refine e_getIN (a := 53) (n := 855) (k0 := 7) (pc' := 74) dX4_cut_71 rfl rfl (Nat.le_of_ble_eq_true rfl) (Nat.le_of_ble_eq_true rfl) rfl mw_205 rfl ?_
              refine e_aload_n (pc' := 75) (i := 0) rfl rfl dX4_cut_74 rfl ?_
              refine e_getR (a := 46) (b := 53) (k0 := 6) (pc' := 78) dX4_cut_75 rfl rfl (Nat.le_of_ble_eq_true rfl) (Nat.le_of_ble_eq_true rfl) rfl mw_245 rfl ?_
              refine e_getIN (a := 53) (n := 856) (k0 := 8) (pc' := 81) dX4_cut_78 rfl rfl (Nat.le_of_ble_eq_true rfl) (Nat.le_of_ble_eq_true rfl) rfl mw_207 rfl ?_
              obtain ⟨I12, A13, L14, hF11, h⟩ := g_b1_e h
              refine e_callV_v (pc' := 84) dX4_cut_81 rfl mw_523 mv_X4_keepPoint rfl (Nat.le_of_ble_eq_true rfl) (Nat.le_of_ble_eq_true rfl) rfl (Nat.le_of_ble_eq_true rfl) (Nat.le_of_ble_eq_true rfl) rfl (c_X4_keepPoint_46 _ _ hF11) rfl ?_
              refine e_aload_n (pc' := 85) (i := 0) rfl rfl dX4_cut_84 rfl ?_
              refine e_aload_n (pc' := 86) (i := 0) rfl rfl dX4_cut_85 rfl ?_
              refine e_getR (a := 46) (b := 53) (k0 := 6) (pc' := 89) dX4_cut_86 rfl rfl (Nat.le_of_ble_eq_true rfl) (Nat.le_of_ble_eq_true rfl) rfl mw_245 rfl ?_
              refine e_getIN (a := 53) (n := 857) (k0 := 9) (pc' := 92) dX4_cut_89 rfl rfl (Nat.le_of_ble_eq_true rfl) (Nat.le_of_ble_eq_true rfl) rfl mw_209 rfl ?_
              refine e_aload_n (pc' := 93) (i := 0) rfl rfl dX4_cut_92 rfl ?_
              refine e_getR (a := 46) (b := 53) (k0 := 6) (pc' := 96) dX4_cut_93 rfl rfl (Nat.le_of_ble_eq_true rfl) (Nat.le_of_ble_eq_true rfl) rfl mw_245 rfl ?_
              refine e_getIN (a := 53) (n := 858) (k0 := 10) (pc' := 99) dX4_cut_96 rfl rfl (Nat.le_of_ble_eq_true rfl) (Nat.le_of_ble_eq_true rfl) rfl mw_211 rfl ?_
              obtain ⟨I16, A17, L18, hF15, h⟩ := g_b1_e h
              refine e_callV_v (pc' := 102) dX4_cut_99 rfl mw_523 mv_X4_keepPoint rfl (Nat.le_of_ble_eq_true rfl) (Nat.le_of_ble_eq_true rfl) rfl (Nat.le_of_ble_eq_true rfl) (Nat.le_of_ble_eq_true rfl) rfl (c_X4_keepPoint_46 _ _ hF15) rfl ?_
              refine e_iinc (pc' := 105) (v := (x4 + 1)) (lc' := [some (.ref 46), some (.ref 1), some (.int x2), some (.int x3), some (.int (x4 + 1))]) dX4_cut_102 rfl rfl rfl (Nat.le_of_ble_eq_true rfl) rfl rfl ?_
              refine e_goto (tgt := 20) dX4_cut_105 (by decide) ?_
              exact e_weak (lc' := [some (.ref 46), some (.ref 1), some (.int x2), some (.int x3), some (.int (x4 + 1))]) (gle_s (gle_s (gle_s (gle_s (gle_s gle_0))))) (ih _ _ _ _ _ _ _ h)
set_option maxHeartbeats 4000000 in
set_option maxRecDepth 100000 in
theorem w_X4_cut_46_1_p7  : ∀ (n : Nat) (x2 : Int32) (x3 : Int32) (I : Nat → Int32) (A : Nat → Nat → Int32) (L : Nat → Int64) (t : gS), f_X4_cut_p7 46 1 n x2 x3 I A L = some t → Ev 70 RX4 cX4_cut 5 none 3 7 [some (.ref 46), some (.ref 1), some (.int x2), some (.int x3), none] [] I A L (none, t) := by
  intro n
  induction n with
  | zero =>
    intro x2 x3 I A L t h
    cases h
  | succ n ih =>
    intro x2 x3 I A L t h
    rw [f_X4_cut_p7] at h
    refine e_iload_n (pc' := 8) (i := 3) rfl rfl dX4_cut_7 rfl ?_
    refine e_aload_n (pc' := 9) (i := 1) rfl rfl dX4_cut_8 rfl ?_
    refine e_getIN (a := 1) (n := 20) (k0 := 4) (pc' := 12) dX4_cut_9 rfl rfl (Nat.le_of_ble_eq_true rfl) (Nat.le_of_ble_eq_true rfl) rfl mw_143 rfl ?_
    refine e_icmp_ge (tgt := 114) (pc' := 15) dX4_cut_12 (by decide) rfl h (fun h => ?_) (fun h => ?_)
    · obtain rfl := g_re1 h
      exact e_vret dX4_cut_114
    · refine e_iload_n (pc' := 16) (i := 3) rfl rfl dX4_cut_15 rfl ?_
      refine e_iconst (v := 1) (pc' := 17) (by decide) dX4_cut_16 rfl ?_
      refine e_iadd (pc' := 18) dX4_cut_17 rfl ?_
      refine e_istore (pc' := 20) (i := 4) (lc' := [some (.ref 46), some (.ref 1), some (.int x2), some (.int x3), some (.int (x3 + 1))]) dX4_cut_18 rfl (Nat.le_of_ble_eq_true rfl) rfl rfl ?_
      exact e_weak (lc' := [some (.ref 46), some (.ref 1), some (.int x2), some (.int x3), some (.int (x3 + 1))]) (gle_s (gle_s (gle_s (gle_s (gle_s gle_0))))) (w_X4_cut_46_1_p20 _ ih _ _ _ _ _ _ _ _ h)
set_option maxHeartbeats 4000000 in
set_option maxRecDepth 100000 in
theorem c_X4_cut_46_1 (a0 : Int32) {I : Nat → Int32} {A : Nat → Nat → Int32} {L : Nat → Int64} {I' : Nat → Int32} {A' : Nat → Nat → Int32} {L' : Nat → Int64} (h : f_X4_cut 46 1 a0 I A L = some (I', A', L')) : GM 70 yX4_cut cX4_cut 5 none 3 [.ref 46, .ref 1, .int a0] I A L (none, (I', A', L')) := by
  refine gm_of (n := 2) (lc := [some (.ref 46), some (.ref 1), some (.int a0), none, none]) (by decide +kernel) rfl (fun _ => Nat.le_of_ble_eq_true rfl) ?_
  change Ev 70 RX4 cX4_cut 5 none 3 0 [some (.ref 46), some (.ref 1), some (.int a0), none, none] [] I A L _
  unfold f_X4_cut at h
  refine e_aload_n (pc' := 1) (i := 0) rfl rfl dX4_cut_0 rfl ?_
  refine e_iconst (v := 0) (pc' := 2) (by decide) dX4_cut_1 rfl ?_
  refine e_putI (a := 46) (n := 743) (k0 := 7) (pc' := 5) dX4_cut_2 rfl rfl (Nat.le_of_ble_eq_true rfl) (Nat.le_of_ble_eq_true rfl) rfl mw_246 rfl rfl g_pI rfl rfl ?_
  refine e_ltI h (fun I1 h => ?_)
  refine e_iconst (v := 0) (pc' := 6) (by decide) dX4_cut_5 rfl ?_
  refine e_istore_n (pc' := 7) (i := 3) (lc' := [some (.ref 46), some (.ref 1), some (.int a0), some (.int 0), none]) rfl dX4_cut_6 rfl (Nat.le_of_ble_eq_true rfl) rfl rfl ?_
  exact e_weak (lc' := [some (.ref 46), some (.ref 1), some (.int a0), some (.int 0), none]) (gle_s (gle_s (gle_s (gle_s (gle_n gle_0))))) (w_X4_cut_46_1_p7  _ _ _ _ _ _ _ h)
set_option maxHeartbeats 4000000 in
set_option maxRecDepth 100000 in
theorem c_X6_cornersWithout_38 (a0 : Int32) {I : Nat → Int32} {A : Nat → Nat → Int32} {L : Nat → Int64} {t : Int32} {I' : Nat → Int32} {A' : Nat → Nat → Int32} {L' : Nat → Int64} (h : f_X6_cornersWithout 38 a0 I A L = some (t, I', A', L')) : GM 70 yX6_cornersWithout cX6_cornersWithout 3 (some .int) 4 [.ref 0, .int a0, .ref 38] I A L (some (.int t), (I', A', L')) := by
  refine gm_of (n := 0) (lc := [some (.ref 0), some (.int a0), some (.ref 38)]) (by decide +kernel) rfl (fun _ => Nat.le_of_ble_eq_true rfl) ?_
  change Ev 70 RX6 cX6_cornersWithout 3 (some .int) 4 0 [some (.ref 0), some (.int a0), some (.ref 38)] [] I A L _
  unfold f_X6_cornersWithout at h
  refine e_aload_n (pc' := 1) (i := 2) rfl rfl dX6_cornersWithout_0 rfl ?_
  refine e_iload_n (pc' := 2) (i := 1) rfl rfl dX6_cornersWithout_1 rfl ?_
  obtain ⟨v2, hF1, h⟩ := g_bd_e h
  refine e_callVN_i (pc' := 5) dX6_cornersWithout_2 rfl mw_576 mv_X4_isShown rfl (Nat.le_of_ble_eq_true rfl) (Nat.le_of_ble_eq_true rfl) rfl (Nat.le_of_ble_eq_true rfl) (Nat.le_of_ble_eq_true rfl) rfl (c_X4_isShown_38 _ hF1) rfl ?_
  refine e_if_ne (tgt := 13) (pc' := 8) dX6_cornersWithout_5 (by decide) rfl h (fun h => ?_) (fun h => ?_)
  · refine e_aload_n (pc' := 14) (i := 0) rfl rfl dX6_cornersWithout_13 rfl ?_
    refine e_getR (a := 0) (b := 46) (k0 := 4) (pc' := 17) dX6_cornersWithout_14 rfl rfl (Nat.le_of_ble_eq_true rfl) (Nat.le_of_ble_eq_true rfl) rfl mw_339 rfl ?_
    refine e_aload_n (pc' := 18) (i := 0) rfl rfl dX6_cornersWithout_17 rfl ?_
    refine e_getR (a := 0) (b := 1) (k0 := 0) (pc' := 21) dX6_cornersWithout_18 rfl rfl (Nat.le_of_ble_eq_true rfl) (Nat.le_of_ble_eq_true rfl) rfl mw_335 rfl ?_
    refine e_iload_n (pc' := 22) (i := 1) rfl rfl dX6_cornersWithout_21 rfl ?_
    obtain ⟨I4, A5, L6, hF3, h⟩ := g_b1_e h
    refine e_callVN_v (pc' := 25) dX6_cornersWithout_22 rfl mw_507 mv_X4_cut rfl (Nat.le_of_ble_eq_true rfl) (Nat.le_of_ble_eq_true rfl) rfl (Nat.le_of_ble_eq_true rfl) (Nat.le_of_ble_eq_true rfl) rfl (c_X4_cut_46_1 _ hF3) rfl ?_
    refine e_aload_n (pc' := 26) (i := 0) rfl rfl dX6_cornersWithout_25 rfl ?_
    refine e_getR (a := 0) (b := 46) (k0 := 4) (pc' := 29) dX6_cornersWithout_26 rfl rfl (Nat.le_of_ble_eq_true rfl) (Nat.le_of_ble_eq_true rfl) rfl mw_339 rfl ?_
    refine e_getIN (a := 46) (n := 743) (k0 := 7) (pc' := 32) dX6_cornersWithout_29 rfl rfl (Nat.le_of_ble_eq_true rfl) (Nat.le_of_ble_eq_true rfl) rfl mw_247 rfl ?_
    obtain ⟨rfl, rfl, rfl, rfl⟩ := g_re4 h
    exact e_iret dX6_cornersWithout_32
  · refine e_aload_n (pc' := 9) (i := 2) rfl rfl dX6_cornersWithout_8 rfl ?_
    refine e_getIN (a := 38) (n := 615) (k0 := 7) (pc' := 12) dX6_cornersWithout_9 rfl rfl (Nat.le_of_ble_eq_true rfl) (Nat.le_of_ble_eq_true rfl) rfl mw_247 rfl ?_
    obtain ⟨rfl, rfl, rfl, rfl⟩ := g_re4 h
    exact e_iret dX6_cornersWithout_12
