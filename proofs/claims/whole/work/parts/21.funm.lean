def f_X7_refuses  (a0 : Int32) (I : Nat → Int32) (A : Nat → Nat → Int32) (L : Nat → Int64) : Option (Int32 × gS) :=
  g_ck ((-2) - a0) 3 (g_ck ((-2) - a0) 3 (g_lt (va_up A 63 (upd (A 63) (Int32.toNatClampNeg ((-2) - a0)) ((A 63 (Int32.toNatClampNeg ((-2) - a0))) + 1))) (fun A1 => some (a0, I, A1, L))))
def f_X7_in (I : Nat → Int32) (A : Nat → Nat → Int32) (L : Nat → Int64) (a0 : Int32) (a1 : Int32) (a2 : Int32) : Option Int32 :=
  if a0 < a1 then (some 0) else (if a2 < a0 then (some 0) else (some 1))
def f_X7_isSign (I : Nat → Int32) (A : Nat → Nat → Int32) (L : Nat → Int64) (a0 : Int32) (a1 : Int32) (a2 : Int32) : Option Int32 :=
  Option.bind (f_X7_in I A L a0 (-3) 3) (fun v2 => if v2 = 0 then (some 0) else (Option.bind (f_X7_in I A L a1 (-3) 3) (fun v4 => if v4 = 0 then (some 0) else (Option.bind (f_X7_in I A L a2 (-3) 3) (fun v6 => if v6 = 0 then (some 0) else (if a0 = 0 then (if a1 = 0 then (if a2 = 0 then (some 0) else (some 1)) else (some 1)) else (some 1)))))))
def f_X7_aside_p2   : Nat → Int32 → (Nat → Int32) → (Nat → Nat → Int32) → (Nat → Int64) → Option gS
  | 0 => fun _ _ _ _ => none
  | n + 1 => fun x1 I A L => if 129 ≤ x1 then (some (I, A, L)) else (g_ck x1 129 (g_ck x1 129 (g_lt (va_up A 62 (upd (A 62) (Int32.toNatClampNeg x1) (A 60 (Int32.toNatClampNeg x1)))) (fun A1 => f_X7_aside_p2 n (x1 + 1) I A1 L))))
def f_X7_aside   (I : Nat → Int32) (A : Nat → Nat → Int32) (L : Nat → Int64) : Option gS :=
  f_X7_aside_p2 4096 0 I A L
def f_X7_keeps_p51   : Nat → Int32 → (Nat → Int32) → (Nat → Nat → Int32) → (Nat → Int64) → Option gS
  | 0 => fun _ _ _ _ => none
  | n + 1 => fun x1 I A L => if 129 ≤ x1 then (g_lt (va_up I 946 ((I 946) + 1)) (fun I1 => some (I1, A, L))) else (g_ck x1 129 (g_ck ((129 * (I 946)) + x1) 645 (g_lt (va_up A 61 (upd (A 61) (Int32.toNatClampNeg ((129 * (I 946)) + x1)) (A 62 (Int32.toNatClampNeg x1)))) (fun A2 => f_X7_keeps_p51 n (x1 + 1) I A2 L))))
def f_X7_keeps_p10   : Nat → Int32 → (Nat → Int32) → (Nat → Nat → Int32) → (Nat → Int64) → Option gS
  | 0 => fun _ _ _ _ => none
  | n + 1 => fun x1 I A L => if 516 ≤ x1 then (g_lt (va_up I 946 ((I 946) - 1)) (fun I1 => f_X7_keeps_p51 4096 0 I1 A L)) else (g_ck (x1 + 129) 645 (g_ck x1 645 (g_lt (va_up A 61 (upd (A 61) (Int32.toNatClampNeg x1) (A 61 (Int32.toNatClampNeg (x1 + 129))))) (fun A2 => f_X7_keeps_p10 n (x1 + 1) I A2 L))))
def f_X7_keeps   (I : Nat → Int32) (A : Nat → Nat → Int32) (L : Nat → Int64) : Option gS :=
  if (I 946) = 5 then (f_X7_keeps_p10 4096 0 I A L) else (f_X7_keeps_p51 4096 0 I A L)
def f_X7_comes  (a0 : Int32) (a1 : Int32) (a2 : Int32) (a3 : Int32) (I : Nat → Int32) (A : Nat → Nat → Int32) (L : Nat → Int64) : Option gS :=
  g_ck 0 129 (g_lt (1 + (4 * (A 60 (Int32.toNatClampNeg 0)))) (fun v1 => g_ck v1 129 (g_lt (va_up A 60 (upd (A 60) (Int32.toNatClampNeg v1) a0)) (fun A2 => g_ck (v1 + 1) 129 (g_lt (va_up A2 60 (upd (A2 60) (Int32.toNatClampNeg (v1 + 1)) a1)) (fun A3 => g_ck (v1 + 2) 129 (g_lt (va_up A3 60 (upd (A3 60) (Int32.toNatClampNeg (v1 + 2)) a2)) (fun A4 => g_ck (v1 + 3) 129 (g_lt (va_up A4 60 (upd (A4 60) (Int32.toNatClampNeg (v1 + 3)) a3)) (fun A5 => g_ck 0 129 (g_ck 0 129 (g_lt (va_up A5 60 (upd (A5 60) (Int32.toNatClampNeg 0) ((A5 60 (Int32.toNatClampNeg 0)) + 1))) (fun A6 => some (I, A6, L))))))))))))))
def f_X7_plane_p20   (I : Nat → Int32) (A : Nat → Nat → Int32) (L : Nat → Int64) : Option (Int32 × gS) :=
  g_b2 (f_X7_refuses (-2) I A L) (fun v5 I2 A3 L4 => some (v5, I2, A3, L4))
def f_X7_plane  (a0 : Int32) (a1 : Int32) (a2 : Int32) (a3 : Int32) (I : Nat → Int32) (A : Nat → Nat → Int32) (L : Nat → Int64) : Option (Int32 × gS) :=
  Option.bind (f_X7_isSign I A L a0 a1 a2) (fun v2 => if v2 = 0 then (f_X7_plane_p20 I A L) else (Option.bind (f_X7_in I A L a3 1 60) (fun v4 => if v4 = 0 then (f_X7_plane_p20 I A L) else (g_ck 0 129 (if (A 60 (Int32.toNatClampNeg 0)) = 32 then (g_b2 (f_X7_refuses (-4) I A L) (fun v21 I18 A19 L20 => some (v21, I18, A19, L20))) else (g_b1 (f_X7_aside I A L) (fun I6 A7 L8 => g_b1 (f_X7_keeps I6 A7 L8) (fun I10 A11 L12 => g_b1 (f_X7_comes a0 a1 a2 a3 I10 A11 L12) (fun I14 A15 L16 => g_ck 0 129 (some (((A15 60 (Int32.toNatClampNeg 0)) - 1), I14, A15, L16)))))))))))
def f_X7_turns_p66   (x1 : Int32) (x3 : Int32) (x4 : Int32) (s1 : Int32) (s2 : Int32) (I : Nat → Int32) (A : Nat → Nat → Int32) (L : Nat → Int64) : Option gS :=
  g_ck s1 3 (g_lt (va_up A 69 (upd (A 69) (Int32.toNatClampNeg s1) s2)) (fun A1 => if x1 = 0 then (g_ck 2 3 (g_lt (va_up A1 69 (upd (A1 69) (Int32.toNatClampNeg 2) (-x4))) (fun A4 => some (I, A4, L)))) else (if x1 = 4 then (g_ck 2 3 (g_lt (va_up A1 69 (upd (A1 69) (Int32.toNatClampNeg 2) x3)) (fun A3 => some (I, A3, L)))) else (g_ck 2 3 (g_lt (va_up A1 69 (upd (A1 69) (Int32.toNatClampNeg 2) x4)) (fun A2 => some (I, A2, L)))))))
def f_X7_turns_p51   (x1 : Int32) (x3 : Int32) (x4 : Int32) (s1 : Int32) (I : Nat → Int32) (A : Nat → Nat → Int32) (L : Nat → Int64) : Option gS :=
  f_X7_turns_p66 x1 x3 x4 s1 (-x3) I A L
def f_X7_turns_p36   (x1 : Int32) (x2 : Int32) (x3 : Int32) (x4 : Int32) (s1 : Int32) (s2 : Int32) (I : Nat → Int32) (A : Nat → Nat → Int32) (L : Nat → Int64) : Option gS :=
  g_ck s1 3 (g_lt (va_up A 69 (upd (A 69) (Int32.toNatClampNeg s1) s2)) (fun A1 => if x1 = 0 then (f_X7_turns_p51 x1 x3 x4 1 I A1 L) else (if x1 = 2 then (f_X7_turns_p51 x1 x3 x4 1 I A1 L) else (if x1 = 1 then (f_X7_turns_p66 x1 x3 x4 1 x3 I A1 L) else (f_X7_turns_p66 x1 x3 x4 1 x2 I A1 L)))))
def f_X7_turns  (a0 : Int32) (a1 : Int32) (a2 : Int32) (a3 : Int32) (I : Nat → Int32) (A : Nat → Nat → Int32) (L : Nat → Int64) : Option gS :=
  if 3 ≤ a0 then (if a0 = 3 then (f_X7_turns_p36 a0 a1 a2 a3 0 (-a2) I A L) else (if a0 = 4 then (f_X7_turns_p36 a0 a1 a2 a3 0 a3 I A L) else (f_X7_turns_p36 a0 a1 a2 a3 0 a2 I A L))) else (f_X7_turns_p36 a0 a1 a2 a3 0 (-a1) I A L)
def f_X7_laysFamily_p80  (k58 : Int32 → Int32 → Int32 → (Nat → Int32) → (Nat → Nat → Int32) → (Nat → Int64) → Option (Int32 × gS)) (k69 : Int32 → Int32 → Int32 → Int32 → (Nat → Int32) → (Nat → Nat → Int32) → (Nat → Int64) → Option (Int32 × gS)) : Nat → Int32 → Int32 → Int32 → Int32 → Int32 → (Nat → Int32) → (Nat → Nat → Int32) → (Nat → Int64) → Option (Int32 × gS)
  | 0 => fun _ _ _ _ _ _ _ _ => none
  | n + 1 => fun x1 x5 x6 x7 x8 I A L => if 6 ≤ x8 then (k69 x1 x5 x6 (x7 + 1) I A L) else (g_ck x7 343 (if (A 67 (Int32.toNatClampNeg x7)) = 0 then (k69 x1 x5 x6 (x7 + 1) I A L) else (g_b1 (f_X7_turns x8 ((x7 / 49) - 3) (((x7 / 7) - (x7 / 7) / 7 * 7) - 3) ((x7 - x7 / 7 * 7) - 3) I A L) (fun I2 A3 L4 => g_ck 0 3 (g_ck 1 3 (g_ck 2 3 (g_lt ((((49 * ((A3 69 (Int32.toNatClampNeg 0)) + 3)) + (7 * ((A3 69 (Int32.toNatClampNeg 1)) + 3))) + (A3 69 (Int32.toNatClampNeg 2))) + 3) (fun v5 => if ((x1 >>> (x8 &&& 31)) &&& 1) = 1 then (g_ck v5 343 (if (A3 67 (Int32.toNatClampNeg v5)) = 0 then (g_ck v5 343 (g_lt (va_up A3 67 (upd (A3 67) (Int32.toNatClampNeg v5) (vp_nar .boolean 1))) (fun A6 => f_X7_laysFamily_p80 k58 k69 n x1 (x5 + 1) 1 x7 (x8 + 1) I2 A6 L4))) else (f_X7_laysFamily_p80 k58 k69 n x1 x5 x6 x7 (x8 + 1) I2 A3 L4))) else (f_X7_laysFamily_p80 k58 k69 n x1 x5 x6 x7 (x8 + 1) I2 A3 L4)))))))))
def f_X7_laysFamily_p69  (k58 : Int32 → Int32 → Int32 → (Nat → Int32) → (Nat → Nat → Int32) → (Nat → Int64) → Option (Int32 × gS)) : Nat → Int32 → Int32 → Int32 → Int32 → (Nat → Int32) → (Nat → Nat → Int32) → (Nat → Int64) → Option (Int32 × gS)
  | 0 => fun _ _ _ _ _ _ _ => none
  | n + 1 => fun x1 x5 x6 x7 I A L => if 343 ≤ x7 then (k58 x1 x5 x6 I A L) else (f_X7_laysFamily_p80 k58 (f_X7_laysFamily_p69 k58 n) 4096 x1 x5 x6 x7 0 I A L)
def f_X7_laysFamily_p58   : Nat → Int32 → Int32 → Int32 → (Nat → Int32) → (Nat → Nat → Int32) → (Nat → Int64) → Option (Int32 × gS)
  | 0 => fun _ _ _ _ _ _ => none
  | n + 1 => fun x1 x5 x6 I A L => if x6 = 0 then (some (x5, I, A, L)) else (f_X7_laysFamily_p69 (f_X7_laysFamily_p58 n) 4096 x1 x5 0 0 I A L)
def f_X7_laysFamily_p3   : Nat → Int32 → Int32 → Int32 → Int32 → Int32 → (Nat → Int32) → (Nat → Nat → Int32) → (Nat → Int64) → Option (Int32 × gS)
  | 0 => fun _ _ _ _ _ _ _ _ => none
  | n + 1 => fun x1 x2 x3 x4 x5 I A L => if 343 ≤ x5 then (f_X7_laysFamily_p58 4096 x1 1 1 I A L) else (if x5 = ((((49 * (x2 + 3)) + (7 * (x3 + 3))) + x4) + 3) then (g_ck x5 343 (g_lt (va_up A 67 (upd (A 67) (Int32.toNatClampNeg x5) (vp_nar .boolean 1))) (fun A2 => f_X7_laysFamily_p3 n x1 x2 x3 x4 (x5 + 1) I A2 L))) else (g_ck x5 343 (g_lt (va_up A 67 (upd (A 67) (Int32.toNatClampNeg x5) (vp_nar .boolean 0))) (fun A1 => f_X7_laysFamily_p3 n x1 x2 x3 x4 (x5 + 1) I A1 L))))
def f_X7_laysFamily  (a0 : Int32) (a1 : Int32) (a2 : Int32) (a3 : Int32) (I : Nat → Int32) (A : Nat → Nat → Int32) (L : Nat → Int64) : Option (Int32 × gS) :=
  f_X7_laysFamily_p3 4096 a0 a1 a2 a3 0 I A L
def f_X7_familyComes_p2   : Nat → Int32 → Int32 → (Nat → Int32) → (Nat → Nat → Int32) → (Nat → Int64) → Option gS
  | 0 => fun _ _ _ _ _ => none
  | n + 1 => fun x1 x2 I A L => if 343 ≤ x2 then (some (I, A, L)) else (g_ck x2 343 (if (A 67 (Int32.toNatClampNeg x2)) = 0 then (f_X7_familyComes_p2 n x1 (x2 + 1) I A L) else (g_b1 (f_X7_comes ((x2 / 49) - 3) (((x2 / 7) - (x2 / 7) / 7 * 7) - 3) ((x2 - x2 / 7 * 7) - 3) x1 I A L) (fun I2 A3 L4 => f_X7_familyComes_p2 n x1 (x2 + 1) I2 A3 L4))))
def f_X7_familyComes  (a0 : Int32) (I : Nat → Int32) (A : Nat → Nat → Int32) (L : Nat → Int64) : Option gS :=
  f_X7_familyComes_p2 4096 a0 0 I A L
def f_X7_family_p31   (I : Nat → Int32) (A : Nat → Nat → Int32) (L : Nat → Int64) : Option (Int32 × gS) :=
  g_b2 (f_X7_refuses (-2) I A L) (fun v5 I2 A3 L4 => some (v5, I2, A3, L4))
def f_X7_family  (a0 : Int32) (a1 : Int32) (a2 : Int32) (a3 : Int32) (a4 : Int32) (I : Nat → Int32) (A : Nat → Nat → Int32) (L : Nat → Int64) : Option (Int32 × gS) :=
  Option.bind (f_X7_in I A L a0 0 63) (fun v2 => if v2 = 0 then (f_X7_family_p31 I A L) else (Option.bind (f_X7_isSign I A L a1 a2 a3) (fun v4 => if v4 = 0 then (f_X7_family_p31 I A L) else (Option.bind (f_X7_in I A L a4 1 60) (fun v6 => if v6 = 0 then (f_X7_family_p31 I A L) else (g_b2 (f_X7_laysFamily a0 a1 a2 a3 I A L) (fun v11 I8 A9 L10 => g_ck 0 129 (if ((A9 60 (Int32.toNatClampNeg 0)) + v11) ≤ 32 then (g_b1 (f_X7_aside I8 A9 L10) (fun I13 A14 L15 => g_b1 (f_X7_keeps I13 A14 L15) (fun I17 A18 L19 => g_b1 (f_X7_familyComes a4 I17 A18 L19) (fun I21 A22 L23 => some (v11, I21, A22, L23))))) else (g_b2 (f_X7_refuses (-4) I8 A9 L10) (fun v28 I25 A26 L27 => some (v28, I25, A26, L27)))))))))))
def f_X7_isPlane (I : Nat → Int32) (A : Nat → Nat → Int32) (L : Nat → Int64) (a0 : Int32) : Option Int32 :=
  g_ck 0 129 (Option.bind (f_X7_in I A L a0 0 ((A 60 (Int32.toNatClampNeg 0)) - 1)) (fun v2 => g_z v2 (some v2)))
def f_X7_get (I : Nat → Int32) (A : Nat → Nat → Int32) (L : Nat → Int64) (a0 : Int32) (a1 : Int32) : Option Int32 :=
  g_ck ((1 + (4 * a0)) + a1) 129 (some (A 60 (Int32.toNatClampNeg ((1 + (4 * a0)) + a1))))
def f_X7_off_p18   (I : Nat → Int32) (A : Nat → Nat → Int32) (L : Nat → Int64) : Option (Int32 × gS) :=
  g_b2 (f_X7_refuses (-2) I A L) (fun v5 I2 A3 L4 => some (v5, I2, A3, L4))
def f_X7_off  (a0 : Int32) (a1 : Int32) (I : Nat → Int32) (A : Nat → Nat → Int32) (L : Nat → Int64) : Option (Int32 × gS) :=
  Option.bind (f_X7_isPlane I A L a0) (fun v2 => if v2 = 0 then (f_X7_off_p18 I A L) else (Option.bind (f_X7_in I A L a1 1 60) (fun v4 => if v4 = 0 then (f_X7_off_p18 I A L) else (g_b1 (f_X7_aside I A L) (fun I6 A7 L8 => g_b1 (f_X7_keeps I6 A7 L8) (fun I10 A11 L12 => Option.bind (f_X7_get I10 A11 L12 a0 3) (fun v14 => g_ck (4 + (4 * a0)) 129 (g_lt (va_up A11 60 (upd (A11 60) (Int32.toNatClampNeg (4 + (4 * a0))) a1)) (fun A15 => some (v14, I10, A15, L12))))))))))
def f_X7_goes_p6   : Nat → Int32 → (Nat → Int32) → (Nat → Nat → Int32) → (Nat → Int64) → Option gS
  | 0 => fun _ _ _ _ => none
  | n + 1 => fun x2 I A L => g_ck 0 129 (if ((4 * (A 60 (Int32.toNatClampNeg 0))) - 3) ≤ x2 then (g_ck 0 129 (g_ck 0 129 (g_lt (va_up A 60 (upd (A 60) (Int32.toNatClampNeg 0) ((A 60 (Int32.toNatClampNeg 0)) - 1))) (fun A1 => some (I, A1, L))))) else (g_ck (x2 + 4) 129 (g_ck x2 129 (g_lt (va_up A 60 (upd (A 60) (Int32.toNatClampNeg x2) (A 60 (Int32.toNatClampNeg (x2 + 4))))) (fun A2 => f_X7_goes_p6 n (x2 + 1) I A2 L)))))
def f_X7_goes  (a0 : Int32) (I : Nat → Int32) (A : Nat → Nat → Int32) (L : Nat → Int64) : Option gS :=
  f_X7_goes_p6 4096 (1 + (4 * a0)) I A L
def f_X7_drop_p14   (I : Nat → Int32) (A : Nat → Nat → Int32) (L : Nat → Int64) : Option (Int32 × gS) :=
  g_b2 (f_X7_refuses (-2) I A L) (fun v5 I2 A3 L4 => some (v5, I2, A3, L4))
def f_X7_drop  (a0 : Int32) (I : Nat → Int32) (A : Nat → Nat → Int32) (L : Nat → Int64) : Option (Int32 × gS) :=
  Option.bind (f_X7_isPlane I A L a0) (fun v2 => if v2 = 0 then (f_X7_drop_p14 I A L) else (if 6 ≤ a0 then (g_b1 (f_X7_aside I A L) (fun I4 A5 L6 => g_b1 (f_X7_keeps I4 A5 L6) (fun I8 A9 L10 => g_b1 (f_X7_goes a0 I8 A9 L10) (fun I12 A13 L14 => g_ck 0 129 (some ((A13 60 (Int32.toNatClampNeg 0)), I12, A13, L14)))))) else (f_X7_drop_p14 I A L)))
def f_X7_anew_p25   : Nat → Int32 → Int32 → (Nat → Int32) → (Nat → Nat → Int32) → (Nat → Int64) → Option (Int32 × gS)
  | 0 => fun _ _ _ _ _ => none
  | n + 1 => fun x1 x2 I A L => if 6 ≤ x2 then (some (x1, I, A, L)) else (g_ck (4 + (4 * x2)) 129 (g_lt (va_up A 60 (upd (A 60) (Int32.toNatClampNeg (4 + (4 * x2))) 20)) (fun A1 => f_X7_anew_p25 n x1 (x2 + 1) I A1 L)))
def f_X7_anew   (I : Nat → Int32) (A : Nat → Nat → Int32) (L : Nat → Int64) : Option (Int32 × gS) :=
  g_b1 (f_X7_aside I A L) (fun I2 A3 L4 => g_b1 (f_X7_keeps I2 A3 L4) (fun I6 A7 L8 => g_ck 0 129 (g_lt (A7 60 (Int32.toNatClampNeg 0)) (fun v9 => g_ck 0 129 (g_lt (va_up A7 60 (upd (A7 60) (Int32.toNatClampNeg 0) 6)) (fun A10 => f_X7_anew_p25 4096 v9 0 I6 A10 L8))))))
def f_X7_isSame_p5 (I : Nat → Int32) (A : Nat → Nat → Int32) (L : Nat → Int64)  : Nat → Int32 → Int32 → Int32 → Int32 → Option Int32
  | 0 => fun _ _ _ _ => none
  | n + 1 => fun x1 x2 x3 x4 => if 3 ≤ x4 then (g_z x3 (some x3)) else (if x3 = 0 then (f_X7_isSame_p5 I A L n x1 x2 0 (x4 + 1)) else (Option.bind (f_X7_get I A L x1 x4) (fun v3 => Option.bind (f_X7_get I A L x2 3) (fun v5 => Option.bind (f_X7_get I A L x2 x4) (fun v7 => Option.bind (f_X7_get I A L x1 3) (fun v9 => if (v3 * v5) = (v7 * v9) then (f_X7_isSame_p5 I A L n x1 x2 1 (x4 + 1)) else (f_X7_isSame_p5 I A L n x1 x2 0 (x4 + 1))))))))
def f_X7_isSame (I : Nat → Int32) (A : Nat → Nat → Int32) (L : Nat → Int64) (a0 : Int32) (a1 : Int32) : Option Int32 :=
  f_X7_isSame_p5 I A L 4096 a0 a1 1 0
def f_X7_isOn (I : Nat → Int32) (A : Nat → Nat → Int32) (L : Nat → Int64) (a0 : Int32) (a1 : Int32) : Option Int32 :=
  g_ck ((5 * a0) + 4) 320 (if (((A 65 (Int32.toNatClampNeg ((5 * a0) + 4))) >>> (a1 &&& 31)) &&& 1) = 1 then (some 1) else (some 0))
def f_X7_cornersOn_p4 (I : Nat → Int32) (A : Nat → Nat → Int32) (L : Nat → Int64)  : Nat → Int32 → Int32 → Int32 → Option Int32
  | 0 => fun _ _ _ => none
  | n + 1 => fun x1 x2 x3 => if (I 955) ≤ x3 then (some x2) else (Option.bind (f_X7_isOn I A L x3 x1) (fun v2 => if v2 = 0 then (f_X7_cornersOn_p4 I A L n x1 (x2 + 0) (x3 + 1)) else (f_X7_cornersOn_p4 I A L n x1 (x2 + 1) (x3 + 1))))
def f_X7_cornersOn (I : Nat → Int32) (A : Nat → Nat → Int32) (L : Nat → Int64) (a0 : Int32) : Option Int32 :=
  f_X7_cornersOn_p4 I A L 4096 a0 0 0
def f_X7_determinant_p63 (I : Nat → Int32) (A : Nat → Nat → Int32) (L : Nat → Int64)  (x6 : Int32) (x7 : Int32) (x8 : Int32) (x9 : Int32) (x10 : Int32) (s0 : Int32) : Option Int32 :=
  g_ck (x6 + x9) 129 (g_ck (x7 + x10) 129 (g_ck (x8 + s0) 129 (g_ck (x7 + s0) 129 (g_ck (x8 + x10) 129 (g_ck (x6 + x10) 129 (g_ck (x7 + x9) 129 (g_ck (x8 + s0) 129 (g_ck (x7 + s0) 129 (g_ck (x8 + x9) 129 (g_ck (x6 + s0) 129 (g_ck (x7 + x9) 129 (g_ck (x8 + x10) 129 (g_ck (x7 + x10) 129 (g_ck (x8 + x9) 129 (some ((((A 60 (Int32.toNatClampNeg (x6 + x9))) * (((A 60 (Int32.toNatClampNeg (x7 + x10))) * (A 60 (Int32.toNatClampNeg (x8 + s0)))) - ((A 60 (Int32.toNatClampNeg (x7 + s0))) * (A 60 (Int32.toNatClampNeg (x8 + x10)))))) - ((A 60 (Int32.toNatClampNeg (x6 + x10))) * (((A 60 (Int32.toNatClampNeg (x7 + x9))) * (A 60 (Int32.toNatClampNeg (x8 + s0)))) - ((A 60 (Int32.toNatClampNeg (x7 + s0))) * (A 60 (Int32.toNatClampNeg (x8 + x9))))))) + ((A 60 (Int32.toNatClampNeg (x6 + s0))) * (((A 60 (Int32.toNatClampNeg (x7 + x9))) * (A 60 (Int32.toNatClampNeg (x8 + x10)))) - ((A 60 (Int32.toNatClampNeg (x7 + x10))) * (A 60 (Int32.toNatClampNeg (x8 + x9))))))))))))))))))))))
def f_X7_determinant_p50 (I : Nat → Int32) (A : Nat → Nat → Int32) (L : Nat → Int64)  (x4 : Int32) (x6 : Int32) (x7 : Int32) (x8 : Int32) (x9 : Int32) (s0 : Int32) : Option Int32 :=
  if x4 = 2 then (f_X7_determinant_p63 I A L x6 x7 x8 x9 s0 3) else (f_X7_determinant_p63 I A L x6 x7 x8 x9 s0 2)
def f_X7_determinant_p37 (I : Nat → Int32) (A : Nat → Nat → Int32) (L : Nat → Int64)  (x4 : Int32) (x6 : Int32) (x7 : Int32) (x8 : Int32) (s0 : Int32) : Option Int32 :=
  if x4 = 1 then (f_X7_determinant_p50 I A L x4 x6 x7 x8 s0 3) else (f_X7_determinant_p50 I A L x4 x6 x7 x8 s0 1)
def f_X7_determinant (I : Nat → Int32) (A : Nat → Nat → Int32) (L : Nat → Int64) (a0 : Int32) (a1 : Int32) (a2 : Int32) (a3 : Int32) : Option Int32 :=
  if a3 = 0 then (f_X7_determinant_p37 I A L a3 (1 + (4 * a0)) (1 + (4 * a1)) (1 + (4 * a2)) 3) else (f_X7_determinant_p37 I A L a3 (1 + (4 * a0)) (1 + (4 * a1)) (1 + (4 * a2)) 0)
def f_X7_isAhead (I : Nat → Int32) (A : Nat → Nat → Int32) (L : Nat → Int64) (a0 : Int32) (a1 : Int32) (a2 : Int32) (a3 : Int32) (a4 : Int32) : Option Int32 :=
  g_ck ((5 * a4) + 3) 320 (g_ck (5 * a4) 320 (g_lt ((a0 * (A 65 (Int32.toNatClampNeg ((5 * a4) + 3)))) - ((A 65 (Int32.toNatClampNeg (5 * a4))) * a3)) (fun v1 => g_ck ((5 * a4) + 3) 320 (g_ck ((5 * a4) + 1) 320 (g_lt ((a1 * (A 65 (Int32.toNatClampNeg ((5 * a4) + 3)))) - ((A 65 (Int32.toNatClampNeg ((5 * a4) + 1))) * a3)) (fun v2 => g_ck ((5 * a4) + 3) 320 (g_ck ((5 * a4) + 2) 320 (g_lt ((a2 * (A 65 (Int32.toNatClampNeg ((5 * a4) + 3)))) - ((A 65 (Int32.toNatClampNeg ((5 * a4) + 2))) * a3)) (fun v3 => if v1 = 0 then (if v2 = 0 then (if 0 ≤ v3 then (some 0) else (some 1)) else (if 0 ≤ v2 then (some 0) else (some 1))) else (if 0 ≤ v1 then (some 0) else (some 1)))))))))))
def f_X7_isCorner_p3 (I : Nat → Int32) (A : Nat → Nat → Int32) (L : Nat → Int64)  : Nat → Int32 → Int32 → Int32 → Int32 → Int32 → Option Int32
  | 0 => fun _ _ _ _ _ => none
  | n + 1 => fun x1 x2 x3 x4 x5 => if (I 955) ≤ x5 then (some 0) else (g_ck (5 * x5) 320 (if (A 65 (Int32.toNatClampNeg (5 * x5))) = x1 then (g_ck ((5 * x5) + 1) 320 (if (A 65 (Int32.toNatClampNeg ((5 * x5) + 1))) = x2 then (g_ck ((5 * x5) + 2) 320 (if (A 65 (Int32.toNatClampNeg ((5 * x5) + 2))) = x3 then (g_ck ((5 * x5) + 3) 320 (if (A 65 (Int32.toNatClampNeg ((5 * x5) + 3))) = x4 then (some 1) else (f_X7_isCorner_p3 I A L n x1 x2 x3 x4 (x5 + 1)))) else (f_X7_isCorner_p3 I A L n x1 x2 x3 x4 (x5 + 1)))) else (f_X7_isCorner_p3 I A L n x1 x2 x3 x4 (x5 + 1)))) else (f_X7_isCorner_p3 I A L n x1 x2 x3 x4 (x5 + 1))))
def f_X7_isCorner (I : Nat → Int32) (A : Nat → Nat → Int32) (L : Nat → Int64) (a0 : Int32) (a1 : Int32) (a2 : Int32) (a3 : Int32) : Option Int32 :=
  f_X7_isCorner_p3 I A L 4096 a0 a1 a2 a3 0
def f_X7_far (I : Nat → Int32) (A : Nat → Nat → Int32) (L : Nat → Int64) (a0 : Int32) (a1 : Int32) (a2 : Int32) (a3 : Int32) : Option Int32 :=
  Option.bind (f_X7_get I A L a0 0) (fun v2 => Option.bind (f_X7_get I A L a0 1) (fun v4 => Option.bind (f_X7_get I A L a0 2) (fun v6 => some (((v2 * a1) + (v4 * a2)) + (v6 * a3)))))
def f_X7_common_p22 (I : Nat → Int32) (A : Nat → Nat → Int32) (L : Nat → Int64)  : Nat → Int32 → Int32 → Option Int32
  | 0 => fun _ _ => none
  | n + 1 => fun x2 x3 => if x3 = 0 then (some x2) else (g_dv x3 (g_lt (x2 - x2 / x3 * x3) (fun v2 => f_X7_common_p22 I A L n x3 v2)))
def f_X7_common_p10 (I : Nat → Int32) (A : Nat → Nat → Int32) (L : Nat → Int64)  (x1 : Int32) (s0 : Int32) : Option Int32 :=
  if 0 ≤ x1 then (f_X7_common_p22 I A L 4096 s0 x1) else (f_X7_common_p22 I A L 4096 s0 (-x1))
def f_X7_common (I : Nat → Int32) (A : Nat → Nat → Int32) (L : Nat → Int64) (a0 : Int32) (a1 : Int32) : Option Int32 :=
  if 0 ≤ a0 then (f_X7_common_p10 I A L a1 a0) else (f_X7_common_p10 I A L a1 (-a0))
def f_X7_meeting_p257   (x5 : Int32) (x6 : Int32) (x7 : Int32) (x9 : Int32) (x10 : Int32) (x11 : Int32) (I : Nat → Int32) (A : Nat → Nat → Int32) (L : Nat → Int64) : Option gS :=
  g_ck (5 * x11) 320 (g_lt (va_up A 65 (upd (A 65) (Int32.toNatClampNeg (5 * x11)) x5)) (fun A1 => g_ck ((5 * x11) + 1) 320 (g_lt (va_up A1 65 (upd (A1 65) (Int32.toNatClampNeg ((5 * x11) + 1)) x6)) (fun A2 => g_ck ((5 * x11) + 2) 320 (g_lt (va_up A2 65 (upd (A2 65) (Int32.toNatClampNeg ((5 * x11) + 2)) x7)) (fun A3 => g_ck ((5 * x11) + 3) 320 (g_lt (va_up A3 65 (upd (A3 65) (Int32.toNatClampNeg ((5 * x11) + 3)) x9)) (fun A4 => g_ck ((5 * x11) + 4) 320 (g_lt (va_up A4 65 (upd (A4 65) (Int32.toNatClampNeg ((5 * x11) + 4)) x10)) (fun A5 => g_lt (va_up I 955 ((I 955) + 1)) (fun I6 => some (I6, A5, L))))))))))))
def f_X7_meeting_p213  (k186 : Int32 → Int32 → Int32 → Int32 → Int32 → Int32 → (Nat → Int32) → (Nat → Nat → Int32) → (Nat → Int64) → Option gS) : Nat → Int32 → Int32 → Int32 → Int32 → Int32 → Int32 → Int32 → (Nat → Int32) → (Nat → Nat → Int32) → (Nat → Int64) → Option gS
  | 0 => fun _ _ _ _ _ _ _ _ _ _ => none
  | n + 1 => fun x5 x6 x7 x9 x10 x11 x12 I A L => if 5 ≤ x12 then (k186 x5 x6 x7 x9 x10 (x11 + (-1)) I A L) else (g_ck (((5 * x11) - 5) + x12) 320 (g_ck ((5 * x11) + x12) 320 (g_lt (va_up A 65 (upd (A 65) (Int32.toNatClampNeg ((5 * x11) + x12)) (A 65 (Int32.toNatClampNeg (((5 * x11) - 5) + x12))))) (fun A1 => f_X7_meeting_p213 k186 n x5 x6 x7 x9 x10 x11 (x12 + 1) I A1 L))))
def f_X7_meeting_p186   : Nat → Int32 → Int32 → Int32 → Int32 → Int32 → Int32 → (Nat → Int32) → (Nat → Nat → Int32) → (Nat → Int64) → Option gS
  | 0 => fun _ _ _ _ _ _ _ _ _ => none
  | n + 1 => fun x5 x6 x7 x9 x10 x11 I A L => if x11 ≤ 0 then (f_X7_meeting_p257 x5 x6 x7 x9 x10 x11 I A L) else (Option.bind (f_X7_isAhead I A L x5 x6 x7 x9 (x11 - 1)) (fun v2 => if v2 = 0 then (f_X7_meeting_p257 x5 x6 x7 x9 x10 x11 I A L) else (f_X7_meeting_p213 (f_X7_meeting_p186 n) 4096 x5 x6 x7 x9 x10 x11 0 I A L)))
def f_X7_meeting_p98   : Nat → Int32 → Int32 → Int32 → Int32 → Int32 → Int32 → (Nat → Int32) → (Nat → Nat → Int32) → (Nat → Int64) → Option gS
  | 0 => fun _ _ _ _ _ _ _ _ _ => none
  | n + 1 => fun x5 x6 x7 x9 x10 x11 I A L => g_ck 0 129 (if (A 60 (Int32.toNatClampNeg 0)) ≤ x11 then (Option.bind (f_X7_isCorner I A L x5 x6 x7 x9) (fun v2 => if v2 = 0 then (f_X7_meeting_p186 4096 x5 x6 x7 x9 x10 (I 955) I A L) else (some (I, A, L)))) else (Option.bind (f_X7_far I A L x11 x5 x6 x7) (fun v4 => Option.bind (f_X7_get I A L x11 3) (fun v6 => g_lt (v4 - (v6 * x9)) (fun v7 => if v7 ≤ 0 then (if v7 = 0 then (g_lt (x10 ||| (1 <<< (x11 &&& 31))) (fun v8 => f_X7_meeting_p98 n x5 x6 x7 x9 v8 (x11 + 1) I A L)) else (f_X7_meeting_p98 n x5 x6 x7 x9 (x10 ||| 0) (x11 + 1) I A L)) else (some (I, A, L)))))))
def f_X7_meeting_p62   (x4 : Int32) (x5 : Int32) (x6 : Int32) (x7 : Int32) (s0 : Int32) (I : Nat → Int32) (A : Nat → Nat → Int32) (L : Nat → Int64) : Option gS :=
  g_dv s0 (g_dv s0 (g_dv s0 (g_dv s0 (f_X7_meeting_p98 4096 (x5 / s0) (x6 / s0) (x7 / s0) (x4 / s0) 0 0 I A L))))
def f_X7_meeting  (a0 : Int32) (a1 : Int32) (a2 : Int32) (a3 : Int32) (I : Nat → Int32) (A : Nat → Nat → Int32) (L : Nat → Int64) : Option gS :=
  Option.bind (f_X7_determinant I A L a0 a1 a2 0) (fun v2 => Option.bind (f_X7_determinant I A L a0 a1 a2 1) (fun v4 => Option.bind (f_X7_determinant I A L a0 a1 a2 2) (fun v6 => Option.bind (f_X7_common I A L v2 v4) (fun v8 => Option.bind (f_X7_common I A L v6 a3) (fun v10 => Option.bind (f_X7_common I A L v8 v10) (fun v12 => if 0 ≤ a3 then (f_X7_meeting_p62 a3 v2 v4 v6 v12 I A L) else (f_X7_meeting_p62 a3 v2 v4 v6 (-v12) I A L)))))))
def f_X7_lays_p121  (k89 : Int32 → (Nat → Int32) → (Nat → Nat → Int32) → (Nat → Int64) → Option gS) : Nat → Int32 → Int32 → (Nat → Int32) → (Nat → Nat → Int32) → (Nat → Int64) → Option gS
  | 0 => fun _ _ _ _ _ => none
  | n + 1 => fun x1 x2 I A L => if x1 ≤ x2 then (k89 (x1 + 1) I A L) else (g_ck x1 32 (if (A 66 (Int32.toNatClampNeg x1)) = 0 then (g_ck x1 32 (g_lt (va_up A 66 (upd (A 66) (Int32.toNatClampNeg x1) (vp_nar .boolean 0))) (fun A1 => f_X7_lays_p121 k89 n x1 (x2 + 1) I A1 L))) else (Option.bind (f_X7_isSame I A L x1 x2) (fun v3 => if v3 = 0 then (g_ck x1 32 (g_lt (va_up A 66 (upd (A 66) (Int32.toNatClampNeg x1) (vp_nar .boolean 1))) (fun A5 => f_X7_lays_p121 k89 n x1 (x2 + 1) I A5 L))) else (g_ck x1 32 (g_lt (va_up A 66 (upd (A 66) (Int32.toNatClampNeg x1) (vp_nar .boolean 0))) (fun A4 => f_X7_lays_p121 k89 n x1 (x2 + 1) I A4 L)))))))
def f_X7_lays_p89   : Nat → Int32 → (Nat → Int32) → (Nat → Nat → Int32) → (Nat → Int64) → Option gS
  | 0 => fun _ _ _ _ => none
  | n + 1 => fun x1 I A L => g_ck 0 129 (if (A 60 (Int32.toNatClampNeg 0)) ≤ x1 then (some (I, A, L)) else (Option.bind (f_X7_cornersOn I A L x1) (fun v2 => if v2 ≤ 2 then (g_ck x1 32 (g_lt (va_up A 66 (upd (A 66) (Int32.toNatClampNeg x1) (vp_nar .boolean 0))) (fun A3 => f_X7_lays_p121 (f_X7_lays_p89 n) 4096 x1 0 I A3 L))) else (g_ck x1 32 (g_lt (va_up A 66 (upd (A 66) (Int32.toNatClampNeg x1) (vp_nar .boolean 1))) (fun A4 => f_X7_lays_p121 (f_X7_lays_p89 n) 4096 x1 0 I A4 L))))))
def f_X7_lays_p35  (k7 : Int32 → (Nat → Int32) → (Nat → Nat → Int32) → (Nat → Int64) → Option gS) (k21 : Int32 → Int32 → (Nat → Int32) → (Nat → Nat → Int32) → (Nat → Int64) → Option gS) : Nat → Int32 → Int32 → Int32 → (Nat → Int32) → (Nat → Nat → Int32) → (Nat → Int64) → Option gS
  | 0 => fun _ _ _ _ _ _ => none
  | n + 1 => fun x1 x2 x3 I A L => g_ck 0 129 (if (A 60 (Int32.toNatClampNeg 0)) ≤ x3 then (k21 x1 (x2 + 1) I A L) else (Option.bind (f_X7_determinant I A L x1 x2 x3 3) (fun v2 => if v2 = 0 then (f_X7_lays_p35 k7 k21 n x1 x2 (x3 + 1) I A L) else (g_b1 (f_X7_meeting x1 x2 x3 v2 I A L) (fun I4 A5 L6 => f_X7_lays_p35 k7 k21 n x1 x2 (x3 + 1) I4 A5 L6)))))
def f_X7_lays_p21  (k7 : Int32 → (Nat → Int32) → (Nat → Nat → Int32) → (Nat → Int64) → Option gS) : Nat → Int32 → Int32 → (Nat → Int32) → (Nat → Nat → Int32) → (Nat → Int64) → Option gS
  | 0 => fun _ _ _ _ _ => none
  | n + 1 => fun x1 x2 I A L => g_ck 0 129 (if (A 60 (Int32.toNatClampNeg 0)) ≤ x2 then (k7 (x1 + 1) I A L) else (f_X7_lays_p35 k7 (f_X7_lays_p21 k7 n) 4096 x1 x2 (x2 + 1) I A L))
def f_X7_lays_p7   : Nat → Int32 → (Nat → Int32) → (Nat → Nat → Int32) → (Nat → Int64) → Option gS
  | 0 => fun _ _ _ _ => none
  | n + 1 => fun x1 I A L => g_ck 0 129 (if (A 60 (Int32.toNatClampNeg 0)) ≤ x1 then (f_X7_lays_p89 4096 0 I A L) else (f_X7_lays_p21 (f_X7_lays_p7 n) 4096 x1 (x1 + 1) I A L))
def f_X7_lays   (I : Nat → Int32) (A : Nat → Nat → Int32) (L : Nat → Int64) : Option gS :=
  g_lt (va_up I 955 0) (fun I1 => f_X7_lays_p7 4096 0 I1 A L)
def f_X7_draw_p133  (k49 : Int32 → Int64 → Int32 → (Nat → Int32) → (Nat → Nat → Int32) → (Nat → Int64) → Option (Int32 × gS)) (x2 : Int32) (x3 : Int64) (x5 : Int32) (x7 : Int32) (x8 : Int32) (s1 : Int32) (I : Nat → Int32) (A : Nat → Nat → Int32) (L : Nat → Int64) : Option (Int32 × gS) :=
  g_b1 (f_X7_comes s1 x7 x8 (10 + (Int64.toInt32 ((x3 / 512) - (x3 / 512) / 31 * 31))) I A L) (fun I2 A3 L4 => k49 x2 x3 (x5 + 1) I2 A3 L4)
def f_X7_draw_p131  (k49 : Int32 → Int64 → Int32 → (Nat → Int32) → (Nat → Nat → Int32) → (Nat → Int64) → Option (Int32 × gS)) (x2 : Int32) (x3 : Int64) (x5 : Int32) (x6 : Int32) (x7 : Int32) (x8 : Int32) (I : Nat → Int32) (A : Nat → Nat → Int32) (L : Nat → Int64) : Option (Int32 × gS) :=
  f_X7_draw_p133 k49 x2 x3 x5 x7 x8 x6 I A L
def f_X7_draw_p49   : Nat → Int32 → Int64 → Int32 → (Nat → Int32) → (Nat → Nat → Int32) → (Nat → Int64) → Option (Int32 × gS)
  | 0 => fun _ _ _ _ _ _ => none
  | n + 1 => fun x2 x3 x5 I A L => if x2 ≤ x5 then (g_b1 (f_X7_lays I A L) (fun I2 A3 L4 => some ((I2 955), I2, A3, L4))) else (g_lt (((x3 * 1103515245) + 12345) - ((x3 * 1103515245) + 12345) / 2147483648 * 2147483648) (fun v5 => g_lt ((Int64.toInt32 ((v5 / 65536) - (v5 / 65536) / 7 * 7)) - 3) (fun v6 => g_lt ((Int64.toInt32 ((v5 / 1024) - (v5 / 1024) / 7 * 7)) - 3) (fun v7 => g_lt ((Int64.toInt32 ((v5 / 32768) - (v5 / 32768) / 7 * 7)) - 3) (fun v8 => if v6 = 0 then (if v7 = 0 then (if v8 = 0 then (f_X7_draw_p133 (f_X7_draw_p49 n) x2 v5 x5 v7 v8 1 I A L) else (f_X7_draw_p131 (f_X7_draw_p49 n) x2 v5 x5 v6 v7 v8 I A L)) else (f_X7_draw_p131 (f_X7_draw_p49 n) x2 v5 x5 v6 v7 v8 I A L)) else (f_X7_draw_p131 (f_X7_draw_p49 n) x2 v5 x5 v6 v7 v8 I A L))))))
def f_X7_draw_p20   (I : Nat → Int32) (A : Nat → Nat → Int32) (L : Nat → Int64) : Option (Int32 × gS) :=
  g_b2 (f_X7_refuses (-2) I A L) (fun v5 I2 A3 L4 => some (v5, I2, A3, L4))
def f_X7_draw  (a0 : Int32) (a1 : Int32) (I : Nat → Int32) (A : Nat → Nat → Int32) (L : Nat → Int64) : Option (Int32 × gS) :=
  Option.bind (f_X7_in I A L a0 0 999999) (fun v2 => if v2 = 0 then (f_X7_draw_p20 I A L) else (Option.bind (f_X7_in I A L a1 1 26) (fun v4 => if v4 = 0 then (f_X7_draw_p20 I A L) else (g_b1 (f_X7_aside I A L) (fun I6 A7 L8 => g_b1 (f_X7_keeps I6 A7 L8) (fun I10 A11 L12 => g_ck 0 129 (g_lt (va_up A11 60 (upd (A11 60) (Int32.toNatClampNeg 0) 6)) (fun A13 => g_lt (Int32.toInt64 a0) (fun v14 => f_X7_draw_p49 4096 a1 v14 0 I10 A13 L12)))))))))
def f_X7_bad  (a0 : Int32) (I : Nat → Int32) (A : Nat → Nat → Int32) (L : Nat → Int64) : Option (Int32 × gS) :=
  g_ck 0 3 (g_ck 0 3 (g_lt (va_up A 63 (upd (A 63) (Int32.toNatClampNeg 0) ((A 63 (Int32.toNatClampNeg 0)) + 1))) (fun A1 => some (a0, I, A1, L))))
def f_X7_cornersOnBoth_p5 (I : Nat → Int32) (A : Nat → Nat → Int32) (L : Nat → Int64)  : Nat → Int32 → Int32 → Int32 → Int32 → Option Int32
  | 0 => fun _ _ _ _ => none
  | n + 1 => fun x1 x2 x3 x4 => if (I 955) ≤ x4 then (some x3) else (Option.bind (f_X7_isOn I A L x4 x1) (fun v2 => if v2 = 0 then (f_X7_cornersOnBoth_p5 I A L n x1 x2 (x3 + 0) (x4 + 1)) else (Option.bind (f_X7_isOn I A L x4 x2) (fun v4 => if v4 = 0 then (f_X7_cornersOnBoth_p5 I A L n x1 x2 (x3 + 0) (x4 + 1)) else (f_X7_cornersOnBoth_p5 I A L n x1 x2 (x3 + 1) (x4 + 1))))))
def f_X7_cornersOnBoth (I : Nat → Int32) (A : Nat → Nat → Int32) (L : Nat → Int64) (a0 : Int32) (a1 : Int32) : Option Int32 :=
  f_X7_cornersOnBoth_p5 I A L 4096 a0 a1 0 0
def f_X7_isEdge (I : Nat → Int32) (A : Nat → Nat → Int32) (L : Nat → Int64) (a0 : Int32) (a1 : Int32) : Option Int32 :=
  g_ck a0 32 (if (A 66 (Int32.toNatClampNeg a0)) = 0 then (some 0) else (g_ck a1 32 (if (A 66 (Int32.toNatClampNeg a1)) = 0 then (some 0) else (Option.bind (f_X7_cornersOnBoth I A L a0 a1) (fun v2 => if v2 ≤ 1 then (some 0) else (some 1))))))
def f_X7_edgesOf_p4 (I : Nat → Int32) (A : Nat → Nat → Int32) (L : Nat → Int64)  : Nat → Int32 → Int32 → Int32 → Option Int32
  | 0 => fun _ _ _ => none
  | n + 1 => fun x1 x2 x3 => g_ck 0 129 (if (A 60 (Int32.toNatClampNeg 0)) ≤ x3 then (some x2) else (if x3 = x1 then (f_X7_edgesOf_p4 I A L n x1 (x2 + 0) (x3 + 1)) else (Option.bind (f_X7_isEdge I A L x1 x3) (fun v2 => if v2 = 0 then (f_X7_edgesOf_p4 I A L n x1 (x2 + 0) (x3 + 1)) else (f_X7_edgesOf_p4 I A L n x1 (x2 + 1) (x3 + 1))))))
def f_X7_edgesOf (I : Nat → Int32) (A : Nat → Nat → Int32) (L : Nat → Int64) (a0 : Int32) : Option Int32 :=
  f_X7_edgesOf_p4 I A L 4096 a0 0 0
def f_X7_of_p18   (I : Nat → Int32) (A : Nat → Nat → Int32) (L : Nat → Int64) : Option (Int32 × gS) :=
  g_b2 (f_X7_bad (-100) I A L) (fun v5 I2 A3 L4 => some (v5, I2, A3, L4))
def f_X7_of  (a0 : Int32) (a1 : Int32) (I : Nat → Int32) (A : Nat → Nat → Int32) (L : Nat → Int64) : Option (Int32 × gS) :=
  Option.bind (f_X7_isPlane I A L a0) (fun v2 => if v2 = 0 then (f_X7_of_p18 I A L) else (Option.bind (f_X7_in I A L a1 0 6) (fun v4 => if v4 = 0 then (f_X7_of_p18 I A L) else (if 4 ≤ a1 then (g_b1 (f_X7_lays I A L) (fun I6 A7 L8 => if a1 = 4 then (g_ck a0 32 (if (A7 66 (Int32.toNatClampNeg a0)) = 0 then (some (0, I6, A7, L8)) else (some (1, I6, A7, L8)))) else (if a1 = 5 then (Option.bind (f_X7_cornersOn I6 A7 L8 a0) (fun v12 => some (v12, I6, A7, L8))) else (Option.bind (f_X7_edgesOf I6 A7 L8 a0) (fun v10 => some (v10, I6, A7, L8)))))) else (Option.bind (f_X7_get I A L a0 a1) (fun v14 => some (v14, I, A, L)))))))
def f_X7_member_p59   : Nat → Int32 → Int32 → Int32 → (Nat → Int32) → (Nat → Nat → Int32) → (Nat → Int64) → Option (Int32 × gS)
  | 0 => fun _ _ _ _ _ _ => none
  | n + 1 => fun x5 x7 x8 I A L => if 343 ≤ x8 then (some ((-5), I, A, L)) else (g_ck x8 343 (if (A 67 (Int32.toNatClampNeg x8)) = 0 then (f_X7_member_p59 n x5 x7 (x8 + 1) I A L) else (if x7 = x5 then (some ((((100 * (x8 / 49)) + (10 * ((x8 / 7) - (x8 / 7) / 7 * 7))) + (x8 - x8 / 7 * 7)), I, A, L)) else (f_X7_member_p59 n x5 (x7 + 1) (x8 + 1) I A L))))
def f_X7_member_p26   (I : Nat → Int32) (A : Nat → Nat → Int32) (L : Nat → Int64) : Option (Int32 × gS) :=
  g_b2 (f_X7_bad (-10) I A L) (fun v5 I2 A3 L4 => some (v5, I2, A3, L4))
def f_X7_member  (a0 : Int32) (a1 : Int32) (a2 : Int32) (a3 : Int32) (a4 : Int32) (I : Nat → Int32) (A : Nat → Nat → Int32) (L : Nat → Int64) : Option (Int32 × gS) :=
  Option.bind (f_X7_in I A L a0 0 63) (fun v2 => if v2 = 0 then (f_X7_member_p26 I A L) else (Option.bind (f_X7_isSign I A L a1 a2 a3) (fun v4 => if v4 = 0 then (f_X7_member_p26 I A L) else (if (-1) ≤ a4 then (g_b2 (f_X7_laysFamily a0 a1 a2 a3 I A L) (fun v9 I6 A7 L8 => if a4 = (-1) then (some (v9, I6, A7, L8)) else (f_X7_member_p59 4096 a4 0 0 I6 A7 L8))) else (f_X7_member_p26 I A L)))))
def f_X7_showing_p4 (I : Nat → Int32) (A : Nat → Nat → Int32) (L : Nat → Int64)  : Nat → Int32 → Int32 → Option Int32
  | 0 => fun _ _ => none
  | n + 1 => fun x1 x2 => g_ck 0 129 (if (A 60 (Int32.toNatClampNeg 0)) ≤ x2 then (some x1) else (g_ck x2 32 (if (A 66 (Int32.toNatClampNeg x2)) = 0 then (f_X7_showing_p4 I A L n (x1 + 0) (x2 + 1)) else (f_X7_showing_p4 I A L n (x1 + 1) (x2 + 1)))))
def f_X7_showing (I : Nat → Int32) (A : Nat → Nat → Int32) (L : Nat → Int64) : Option Int32 :=
  f_X7_showing_p4 I A L 4096 0 0
def f_X7_edges_p4 (I : Nat → Int32) (A : Nat → Nat → Int32) (L : Nat → Int64)  : Nat → Int32 → Int32 → Option Int32
  | 0 => fun _ _ => none
  | n + 1 => fun x1 x2 => g_ck 0 129 (if (A 60 (Int32.toNatClampNeg 0)) ≤ x2 then (some (x1 / 2)) else (Option.bind (f_X7_edgesOf I A L x2) (fun v2 => f_X7_edges_p4 I A L n (x1 + v2) (x2 + 1))))
def f_X7_edges (I : Nat → Int32) (A : Nat → Nat → Int32) (L : Nat → Int64) : Option Int32 :=
  f_X7_edges_p4 I A L 4096 0 0
def f_X7_mostOn_p4 (I : Nat → Int32) (A : Nat → Nat → Int32) (L : Nat → Int64)  : Nat → Int32 → Int32 → Option Int32
  | 0 => fun _ _ => none
  | n + 1 => fun x1 x2 => g_ck 0 129 (if (A 60 (Int32.toNatClampNeg 0)) ≤ x2 then (some x1) else (g_ck x2 32 (if (A 66 (Int32.toNatClampNeg x2)) = 0 then (f_X7_mostOn_p4 I A L n x1 (x2 + 1)) else (Option.bind (f_X7_cornersOn I A L x2) (fun v2 => if v2 ≤ x1 then (f_X7_mostOn_p4 I A L n x1 (x2 + 1)) else (Option.bind (f_X7_cornersOn I A L x2) (fun v4 => f_X7_mostOn_p4 I A L n v4 (x2 + 1))))))))
def f_X7_mostOn (I : Nat → Int32) (A : Nat → Nat → Int32) (L : Nat → Int64) : Option Int32 :=
  f_X7_mostOn_p4 I A L 4096 0 0
def f_X7_mostAt_p17 (I : Nat → Int32) (A : Nat → Nat → Int32) (L : Nat → Int64) (k4 : Int32 → Int32 → Option Int32) : Nat → Int32 → Int32 → Int32 → Int32 → Option Int32
  | 0 => fun _ _ _ _ => none
  | n + 1 => fun x1 x2 x3 x4 => g_ck 0 129 (if (A 60 (Int32.toNatClampNeg 0)) ≤ x4 then (if x3 ≤ x1 then (k4 x1 (x2 + 1)) else (k4 x3 (x2 + 1))) else (g_ck x4 32 (if (A 66 (Int32.toNatClampNeg x4)) = 0 then (f_X7_mostAt_p17 I A L k4 n x1 x2 (x3 + 0) (x4 + 1)) else (Option.bind (f_X7_isOn I A L x2 x4) (fun v2 => if v2 = 0 then (f_X7_mostAt_p17 I A L k4 n x1 x2 (x3 + 0) (x4 + 1)) else (f_X7_mostAt_p17 I A L k4 n x1 x2 (x3 + 1) (x4 + 1)))))))
def f_X7_mostAt_p4 (I : Nat → Int32) (A : Nat → Nat → Int32) (L : Nat → Int64)  : Nat → Int32 → Int32 → Option Int32
  | 0 => fun _ _ => none
  | n + 1 => fun x1 x2 => if (I 955) ≤ x2 then (some x1) else (f_X7_mostAt_p17 I A L (f_X7_mostAt_p4 I A L n) 4096 x1 x2 0 0)
def f_X7_mostAt (I : Nat → Int32) (A : Nat → Nat → Int32) (L : Nat → Int64) : Option Int32 :=
  f_X7_mostAt_p4 I A L 4096 0 0
def f_X7_all  (a0 : Int32) (I : Nat → Int32) (A : Nat → Nat → Int32) (L : Nat → Int64) : Option (Int32 × gS) :=
  Option.bind (f_X7_in I A L a0 0 6) (fun v2 => if v2 = 0 then (g_b2 (f_X7_refuses (-2) I A L) (fun v27 I24 A25 L26 => some (v27, I24, A25, L26))) else (g_b1 (f_X7_lays I A L) (fun I4 A5 L6 => if a0 = 0 then (g_ck 0 129 (some ((A5 60 (Int32.toNatClampNeg 0)), I4, A5, L6))) else if a0 = 1 then (Option.bind (f_X7_showing I4 A5 L6) (fun v10 => some (v10, I4, A5, L6))) else if a0 = 2 then (g_ck 0 129 (Option.bind (f_X7_showing I4 A5 L6) (fun v13 => some (((A5 60 (Int32.toNatClampNeg 0)) - v13), I4, A5, L6)))) else if a0 = 3 then (some ((I4 955), I4, A5, L6)) else if a0 = 4 then (Option.bind (f_X7_edges I4 A5 L6) (fun v17 => some (v17, I4, A5, L6))) else if a0 = 5 then (Option.bind (f_X7_mostOn I4 A5 L6) (fun v20 => some (v20, I4, A5, L6))) else Option.bind (f_X7_mostAt I4 A5 L6) (fun v22 => some (v22, I4, A5, L6)))))
def f_X7_fraction  (a0 : Int32) (a1 : Int32) (I : Nat → Int32) (A : Nat → Nat → Int32) (L : Nat → Int64) : Option gS :=
  Option.bind (f_X7_common I A L a0 a1) (fun v2 => g_dv v2 (g_lt (va_up L 952 (Int32.toInt64 (a0 / v2))) (fun L4 => g_dv v2 (g_lt (va_up L4 953 (Int32.toInt64 (a1 / v2))) (fun L6 => some (I, A, L6))))))
def f_X7_corner_p13   (I : Nat → Int32) (A : Nat → Nat → Int32) (L : Nat → Int64) : Option (Int32 × gS) :=
  g_b2 (f_X7_refuses (-2) I A L) (fun v5 I2 A3 L4 => some (v5, I2, A3, L4))
def f_X7_corner  (a0 : Int32) (a1 : Int32) (I : Nat → Int32) (A : Nat → Nat → Int32) (L : Nat → Int64) : Option (Int32 × gS) :=
  if a0 < 0 then (f_X7_corner_p13 I A L) else (Option.bind (f_X7_in I A L a1 0 2) (fun v2 => if v2 = 0 then (f_X7_corner_p13 I A L) else (g_b1 (f_X7_lays I A L) (fun I4 A5 L6 => if a0 < (I4 955) then (g_ck ((5 * a0) + a1) 320 (g_ck ((5 * a0) + 3) 320 (g_b1 (f_X7_fraction (A5 65 (Int32.toNatClampNeg ((5 * a0) + a1))) (A5 65 (Int32.toNatClampNeg ((5 * a0) + 3))) I4 A5 L6) (fun I8 A9 L10 => some (1, I8, A9, L10))))) else (g_b2 (f_X7_refuses (-3) I4 A5 L6) (fun v15 I12 A13 L14 => some (v15, I12, A13, L14)))))))
def f_X7_meets_p39   : Nat → Int32 → Int32 → Int32 → Int32 → (Nat → Int32) → (Nat → Nat → Int32) → (Nat → Int64) → Option (Int32 × gS)
  | 0 => fun _ _ _ _ _ _ _ => none
  | n + 1 => fun x1 x2 x3 x4 I A L => g_ck 0 129 (if (A 60 (Int32.toNatClampNeg 0)) ≤ x4 then (if x2 = 0 then (some (x3, I, A, L)) else (g_ck ((5 * x1) + 4) 320 (some ((A 65 (Int32.toNatClampNeg ((5 * x1) + 4))), I, A, L)))) else (Option.bind (f_X7_isOn I A L x1 x4) (fun v2 => if v2 = 0 then (f_X7_meets_p39 n x1 x2 (x3 + 0) (x4 + 1) I A L) else (f_X7_meets_p39 n x1 x2 (x3 + 1) (x4 + 1) I A L))))
def f_X7_meets_p13   (I : Nat → Int32) (A : Nat → Nat → Int32) (L : Nat → Int64) : Option (Int32 × gS) :=
  g_b2 (f_X7_refuses (-2) I A L) (fun v5 I2 A3 L4 => some (v5, I2, A3, L4))
def f_X7_meets  (a0 : Int32) (a1 : Int32) (I : Nat → Int32) (A : Nat → Nat → Int32) (L : Nat → Int64) : Option (Int32 × gS) :=
  if a0 < 0 then (f_X7_meets_p13 I A L) else (Option.bind (f_X7_in I A L a1 0 1) (fun v2 => if v2 = 0 then (f_X7_meets_p13 I A L) else (g_b1 (f_X7_lays I A L) (fun I4 A5 L6 => if a0 < (I4 955) then (f_X7_meets_p39 4096 a0 a1 0 0 I4 A5 L6) else (some ((-1), I4, A5, L6))))))
def f_X7_part  (a0 : Int32) (I : Nat → Int32) (A : Nat → Nat → Int32) (L : Nat → Int64) : Option (Int64 × gS) :=
  if a0 = 0 then (some ((L 952), I, A, L)) else (if a0 = 1 then (some ((L 953), I, A, L)) else (g_b2 (f_X7_bad (-1000000) I A L) (fun v5 I2 A3 L4 => some ((Int32.toInt64 v5), I2, A3, L4))))
def f_X7_edge_p215   (x3 : Int32) (x4 : Int32) (x5 : Int32) (x6 : Int32) (s0 : Int32) (I : Nat → Int32) (A : Nat → Nat → Int32) (L : Nat → Int64) : Option (Int32 × gS) :=
  if x3 = 1 then (g_dv s0 (some ((x4 / s0), I, A, L))) else (if x3 = 2 then (g_dv s0 (some ((x5 / s0), I, A, L))) else (g_dv s0 (some ((x6 / s0), I, A, L))))
def f_X7_edge_p204   (x3 : Int32) (x4 : Int32) (x5 : Int32) (x6 : Int32) (x7 : Int32) (s0 : Int32) (I : Nat → Int32) (A : Nat → Nat → Int32) (L : Nat → Int64) : Option (Int32 × gS) :=
  if 0 ≤ s0 then (f_X7_edge_p215 x3 x4 x5 x6 x7 I A L) else (f_X7_edge_p215 x3 x4 x5 x6 (-x7) I A L)
def f_X7_edge_p66   (x1 : Int32) (x2 : Int32) (I : Nat → Int32) (A : Nat → Nat → Int32) (L : Nat → Int64) : Option (Int32 × gS) :=
  Option.bind (f_X7_isEdge I A L x1 x2) (fun v2 => if v2 = 0 then (some (0, I, A, L)) else (some (1, I, A, L)))
def f_X7_edge_p30   (I : Nat → Int32) (A : Nat → Nat → Int32) (L : Nat → Int64) : Option (Int32 × gS) :=
  g_b2 (f_X7_bad (-100) I A L) (fun v5 I2 A3 L4 => some (v5, I2, A3, L4))
def f_X7_edge  (a0 : Int32) (a1 : Int32) (a2 : Int32) (I : Nat → Int32) (A : Nat → Nat → Int32) (L : Nat → Int64) : Option (Int32 × gS) :=
  Option.bind (f_X7_isPlane I A L a0) (fun v2 => if v2 = 0 then (f_X7_edge_p30 I A L) else (Option.bind (f_X7_isPlane I A L a1) (fun v4 => if v4 = 0 then (f_X7_edge_p30 I A L) else (if a0 = a1 then (f_X7_edge_p30 I A L) else (Option.bind (f_X7_in I A L a2 0 4) (fun v6 => if v6 = 0 then (f_X7_edge_p30 I A L) else (g_b1 (f_X7_lays I A L) (fun I8 A9 L10 => if a2 = 4 then (Option.bind (f_X7_cornersOnBoth I8 A9 L10 a0 a1) (fun v45 => some (v45, I8, A9, L10))) else (if a2 = 0 then (f_X7_edge_p66 a0 a1 I8 A9 L10) else (Option.bind (f_X7_isEdge I8 A9 L10 a0 a1) (fun v12 => if v12 = 0 then (f_X7_edge_p66 a0 a1 I8 A9 L10) else (Option.bind (f_X7_get I8 A9 L10 a0 1) (fun v14 => Option.bind (f_X7_get I8 A9 L10 a1 2) (fun v16 => Option.bind (f_X7_get I8 A9 L10 a0 2) (fun v18 => Option.bind (f_X7_get I8 A9 L10 a1 1) (fun v20 => g_lt ((v14 * v16) - (v18 * v20)) (fun v21 => Option.bind (f_X7_get I8 A9 L10 a0 2) (fun v23 => Option.bind (f_X7_get I8 A9 L10 a1 0) (fun v25 => Option.bind (f_X7_get I8 A9 L10 a0 0) (fun v27 => Option.bind (f_X7_get I8 A9 L10 a1 2) (fun v29 => g_lt ((v23 * v25) - (v27 * v29)) (fun v30 => Option.bind (f_X7_get I8 A9 L10 a0 0) (fun v32 => Option.bind (f_X7_get I8 A9 L10 a1 1) (fun v34 => Option.bind (f_X7_get I8 A9 L10 a0 1) (fun v36 => Option.bind (f_X7_get I8 A9 L10 a1 0) (fun v38 => g_lt ((v32 * v34) - (v36 * v38)) (fun v39 => Option.bind (f_X7_common I8 A9 L10 v21 v30) (fun v41 => Option.bind (f_X7_common I8 A9 L10 v41 v39) (fun v43 => if v21 = 0 then (if v30 = 0 then (f_X7_edge_p204 a2 v21 v30 v39 v43 v39 I8 A9 L10) else (f_X7_edge_p204 a2 v21 v30 v39 v43 v30 I8 A9 L10)) else (f_X7_edge_p204 a2 v21 v30 v39 v43 v21 I8 A9 L10))))))))))))))))))))))))))))))
def f_X7_farOf (I : Nat → Int32) (A : Nat → Nat → Int32) (L : Nat → Int64) (a0 : Int32) (a1 : Int32) (a2 : Int32) (a3 : Int32) : Option Int32 :=
  g_ck (5 * a0) 320 (g_ck ((5 * a0) + 1) 320 (g_ck ((5 * a0) + 2) 320 (some (((a1 * (A 65 (Int32.toNatClampNeg (5 * a0)))) + (a2 * (A 65 (Int32.toNatClampNeg ((5 * a0) + 1))))) + (a3 * (A 65 (Int32.toNatClampNeg ((5 * a0) + 2))))))))
def f_X7_farthest_p6 (I : Nat → Int32) (A : Nat → Nat → Int32) (L : Nat → Int64)  : Nat → Int32 → Int32 → Int32 → Int32 → Int32 → Option Int32
  | 0 => fun _ _ _ _ _ => none
  | n + 1 => fun x1 x2 x3 x4 x5 => if (I 955) ≤ x5 then (some x4) else (g_ck (5 * x5) 320 (g_ck ((5 * x5) + 1) 320 (g_ck ((5 * x5) + 2) 320 (g_lt (((x1 * (A 65 (Int32.toNatClampNeg (5 * x5)))) + (x2 * (A 65 (Int32.toNatClampNeg ((5 * x5) + 1))))) + (x3 * (A 65 (Int32.toNatClampNeg ((5 * x5) + 2))))) (fun v1 => g_ck (5 * x4) 320 (g_ck ((5 * x4) + 1) 320 (g_ck ((5 * x4) + 2) 320 (g_lt (((x1 * (A 65 (Int32.toNatClampNeg (5 * x4)))) + (x2 * (A 65 (Int32.toNatClampNeg ((5 * x4) + 1))))) + (x3 * (A 65 (Int32.toNatClampNeg ((5 * x4) + 2))))) (fun v2 => g_ck ((5 * x4) + 3) 320 (g_ck ((5 * x5) + 3) 320 (if (v1 * (A 65 (Int32.toNatClampNeg ((5 * x4) + 3)))) ≤ (v2 * (A 65 (Int32.toNatClampNeg ((5 * x5) + 3)))) then (f_X7_farthest_p6 I A L n x1 x2 x3 x4 (x5 + 1)) else (f_X7_farthest_p6 I A L n x1 x2 x3 x5 (x5 + 1)))))))))))))
def f_X7_farthest (I : Nat → Int32) (A : Nat → Nat → Int32) (L : Nat → Int64) (a0 : Int32) (a1 : Int32) (a2 : Int32) : Option Int32 :=
  f_X7_farthest_p6 I A L 4096 a0 a1 a2 0 1
def f_X7_reach_p35   : Nat → Int32 → Int32 → Int32 → Int32 → Int32 → Int32 → (Nat → Int32) → (Nat → Nat → Int32) → (Nat → Int64) → Option (Int32 × gS)
  | 0 => fun _ _ _ _ _ _ _ _ _ => none
  | n + 1 => fun x1 x2 x3 x4 x5 x6 I A L => if (I 955) ≤ x6 then (Option.bind (f_X7_farOf I A L x4 x1 x2 x3) (fun v2 => g_ck ((5 * x4) + 3) 320 (g_b1 (f_X7_fraction v2 (A 65 (Int32.toNatClampNeg ((5 * x4) + 3))) I A L) (fun I4 A5 L6 => some (x5, I4, A5, L6))))) else (Option.bind (f_X7_farOf I A L x6 x1 x2 x3) (fun v8 => g_ck ((5 * x4) + 3) 320 (Option.bind (f_X7_farOf I A L x4 x1 x2 x3) (fun v10 => g_ck ((5 * x6) + 3) 320 (if (v8 * (A 65 (Int32.toNatClampNeg ((5 * x4) + 3)))) = (v10 * (A 65 (Int32.toNatClampNeg ((5 * x6) + 3)))) then (f_X7_reach_p35 n x1 x2 x3 x4 (x5 + 1) (x6 + 1) I A L) else (f_X7_reach_p35 n x1 x2 x3 x4 (x5 + 0) (x6 + 1) I A L))))))
def f_X7_reach  (a0 : Int32) (a1 : Int32) (a2 : Int32) (I : Nat → Int32) (A : Nat → Nat → Int32) (L : Nat → Int64) : Option (Int32 × gS) :=
  Option.bind (f_X7_isSign I A L a0 a1 a2) (fun v2 => if v2 = 0 then (g_b2 (f_X7_refuses (-2) I A L) (fun v13 I10 A11 L12 => some (v13, I10, A11, L12))) else (g_b1 (f_X7_lays I A L) (fun I4 A5 L6 => Option.bind (f_X7_farthest I4 A5 L6 a0 a1 a2) (fun v8 => f_X7_reach_p35 4096 a0 a1 a2 v8 0 0 I4 A5 L6))))
def f_X7_isStaying_p4   : Nat → Int32 → Int32 → Int32 → (Nat → Int32) → (Nat → Nat → Int32) → (Nat → Int64) → Option (Int32 × gS)
  | 0 => fun _ _ _ _ _ _ => none
  | n + 1 => fun x1 x2 x3 I A L => if (I 955) ≤ x3 then (g_z x2 (some (x2, I, A, L))) else (g_ck (5 * x3) 320 (g_ck ((5 * x3) + 1) 320 (g_ck ((5 * x3) + 2) 320 (g_b1 (f_X7_turns x1 (A 65 (Int32.toNatClampNeg (5 * x3))) (A 65 (Int32.toNatClampNeg ((5 * x3) + 1))) (A 65 (Int32.toNatClampNeg ((5 * x3) + 2))) I A L) (fun I3 A4 L5 => if x2 = 0 then (f_X7_isStaying_p4 n x1 0 (x3 + 1) I3 A4 L5) else (g_ck 0 3 (g_ck 1 3 (g_ck 2 3 (g_ck ((5 * x3) + 3) 320 (Option.bind (f_X7_isCorner I3 A4 L5 (A4 69 (Int32.toNatClampNeg 0)) (A4 69 (Int32.toNatClampNeg 1)) (A4 69 (Int32.toNatClampNeg 2)) (A4 65 (Int32.toNatClampNeg ((5 * x3) + 3)))) (fun v7 => if v7 = 0 then (f_X7_isStaying_p4 n x1 0 (x3 + 1) I3 A4 L5) else (f_X7_isStaying_p4 n x1 1 (x3 + 1) I3 A4 L5))))))))))))
def f_X7_isStaying  (a0 : Int32) (I : Nat → Int32) (A : Nat → Nat → Int32) (L : Nat → Int64) : Option (Int32 × gS) :=
  f_X7_isStaying_p4 4096 a0 1 0 I A L
def f_X7_stays  (a0 : Int32) (I : Nat → Int32) (A : Nat → Nat → Int32) (L : Nat → Int64) : Option (Int32 × gS) :=
  Option.bind (f_X7_in I A L a0 0 5) (fun v2 => if v2 = 0 then (g_b2 (f_X7_refuses (-2) I A L) (fun v16 I13 A14 L15 => some (v16, I13, A14, L15))) else (g_b1 (f_X7_lays I A L) (fun I4 A5 L6 => g_b2 (f_X7_isStaying a0 I4 A5 L6) (fun v11 I8 A9 L10 => if v11 = 0 then (some (0, I8, A9, L10)) else (some (1, I8, A9, L10))))))
def f_X7_symmetry_p8   : Nat → Int32 → Int32 → (Nat → Int32) → (Nat → Nat → Int32) → (Nat → Int64) → Option (Int32 × gS)
  | 0 => fun _ _ _ _ _ => none
  | n + 1 => fun x1 x2 I A L => if 6 ≤ x2 then (some (x1, I, A, L)) else (g_b2 (f_X7_isStaying x2 I A L) (fun v5 I2 A3 L4 => if v5 = 0 then (f_X7_symmetry_p8 n (x1 ||| 0) (x2 + 1) I2 A3 L4) else (g_lt (x1 ||| (1 <<< (x2 &&& 31))) (fun v6 => f_X7_symmetry_p8 n v6 (x2 + 1) I2 A3 L4))))
def f_X7_symmetry   (I : Nat → Int32) (A : Nat → Nat → Int32) (L : Nat → Int64) : Option (Int32 × gS) :=
  g_b1 (f_X7_lays I A L) (fun I2 A3 L4 => f_X7_symmetry_p8 4096 0 0 I2 A3 L4)
def f_X7_hides_p113  (k91 : Int32 → Int32 → Int32 → Int32 → Int32 → Int32 → (Nat → Int32) → (Nat → Nat → Int32) → (Nat → Int64) → Option (Int32 × gS)) (x4 : Int32) (x6 : Int32) (x7 : Int32) (x9 : Int32) (x10 : Int32) (s0 : Int32) (I : Nat → Int32) (A : Nat → Nat → Int32) (L : Nat → Int64) : Option (Int32 × gS) :=
  if x6 ≤ (x10 * x7) then (k91 x4 x6 x7 s0 (x9 + 0) (x10 + (-1)) I A L) else (k91 x4 x6 x7 s0 (x9 + 1) (x10 + (-1)) I A L)
def f_X7_hides_p91   : Nat → Int32 → Int32 → Int32 → Int32 → Int32 → Int32 → (Nat → Int32) → (Nat → Nat → Int32) → (Nat → Int64) → Option (Int32 × gS)
  | 0 => fun _ _ _ _ _ _ _ _ _ => none
  | n + 1 => fun x4 x6 x7 x8 x9 x10 I A L => if x10 ≤ 0 then (if x4 = 0 then (some (x8, I, A, L)) else (some (x9, I, A, L))) else (if (x10 * x7) ≤ x6 then (f_X7_hides_p113 (f_X7_hides_p91 n) x4 x6 x7 x9 x10 x8 I A L) else (f_X7_hides_p113 (f_X7_hides_p91 n) x4 x6 x7 x9 x10 x10 I A L))
def f_X7_hides_p19   (I : Nat → Int32) (A : Nat → Nat → Int32) (L : Nat → Int64) : Option (Int32 × gS) :=
  g_b2 (f_X7_refuses (-2) I A L) (fun v5 I2 A3 L4 => some (v5, I2, A3, L4))
def f_X7_hides  (a0 : Int32) (a1 : Int32) (a2 : Int32) (a3 : Int32) (I : Nat → Int32) (A : Nat → Nat → Int32) (L : Nat → Int64) : Option (Int32 × gS) :=
  Option.bind (f_X7_isSign I A L a0 a1 a2) (fun v2 => if v2 = 0 then (f_X7_hides_p19 I A L) else (Option.bind (f_X7_in I A L a3 0 1) (fun v4 => if v4 = 0 then (f_X7_hides_p19 I A L) else (g_ck 0 129 (if (A 60 (Int32.toNatClampNeg 0)) = 32 then (g_b2 (f_X7_refuses (-4) I A L) (fun v18 I15 A16 L17 => some (v18, I15, A16, L17))) else (g_b1 (f_X7_lays I A L) (fun I6 A7 L8 => Option.bind (f_X7_farthest I6 A7 L8 a0 a1 a2) (fun v10 => Option.bind (f_X7_farOf I6 A7 L8 v10 a0 a1 a2) (fun v12 => g_ck ((5 * v10) + 3) 320 (g_lt (A7 65 (Int32.toNatClampNeg ((5 * v10) + 3))) (fun v13 => f_X7_hides_p91 4096 a3 v12 v13 (-1) 0 60 I6 A7 L8)))))))))))
def f_X7_restores_p2   : Nat → Int32 → (Nat → Int32) → (Nat → Nat → Int32) → (Nat → Int64) → Option gS
  | 0 => fun _ _ _ _ => none
  | n + 1 => fun x1 I A L => if 129 ≤ x1 then (some (I, A, L)) else (g_ck x1 129 (g_ck x1 129 (g_lt (va_up A 60 (upd (A 60) (Int32.toNatClampNeg x1) (A 62 (Int32.toNatClampNeg x1)))) (fun A1 => f_X7_restores_p2 n (x1 + 1) I A1 L))))
def f_X7_restores   (I : Nat → Int32) (A : Nat → Nat → Int32) (L : Nat → Int64) : Option gS :=
  f_X7_restores_p2 4096 0 I A L
def f_X7_spare_p98  (k46 : Int32 → Int32 → Int32 → Int32 → (Nat → Int32) → (Nat → Nat → Int32) → (Nat → Int64) → Option (Int32 × gS)) (x1 : Int32) (x2 : Int32) (x4 : Int32) (s0 : Int32) (I : Nat → Int32) (A : Nat → Nat → Int32) (L : Nat → Int64) : Option (Int32 × gS) :=
  g_b1 (f_X7_restores I A L) (fun I2 A3 L4 => k46 x1 x2 s0 (x4 + 1) I2 A3 L4)
def f_X7_spare_p81  (k46 : Int32 → Int32 → Int32 → Int32 → (Nat → Int32) → (Nat → Nat → Int32) → (Nat → Int64) → Option (Int32 × gS)) (x1 : Int32) (x3 : Int32) (x4 : Int32) (s0 : Int32) (I : Nat → Int32) (A : Nat → Nat → Int32) (L : Nat → Int64) : Option (Int32 × gS) :=
  if (I 955) ≤ x3 then (f_X7_spare_p98 k46 x1 s0 x4 x3 I A L) else (f_X7_spare_p98 k46 x1 s0 x4 (I 955) I A L)
def f_X7_spare_p46   : Nat → Int32 → Int32 → Int32 → Int32 → (Nat → Int32) → (Nat → Nat → Int32) → (Nat → Int64) → Option (Int32 × gS)
  | 0 => fun _ _ _ _ _ _ _ => none
  | n + 1 => fun x1 x2 x3 x4 I A L => g_ck 0 129 (if (A 62 (Int32.toNatClampNeg 0)) ≤ x4 then (if x1 = 0 then (some (x2, I, A, L)) else (some (x3, I, A, L))) else (g_b1 (f_X7_goes x4 I A L) (fun I2 A3 L4 => g_b1 (f_X7_lays I2 A3 L4) (fun I6 A7 L8 => if (I6 955) ≤ x3 then (f_X7_spare_p81 (f_X7_spare_p46 n) x1 x3 x4 x2 I6 A7 L8) else (f_X7_spare_p81 (f_X7_spare_p46 n) x1 x3 x4 x4 I6 A7 L8)))))
def f_X7_spare  (a0 : Int32) (I : Nat → Int32) (A : Nat → Nat → Int32) (L : Nat → Int64) : Option (Int32 × gS) :=
  Option.bind (f_X7_in I A L a0 0 1) (fun v2 => if v2 = 0 then (g_b2 (f_X7_refuses (-2) I A L) (fun v16 I13 A14 L15 => some (v16, I13, A14, L15))) else (g_ck 0 129 (if (A 60 (Int32.toNatClampNeg 0)) = 6 then (g_b2 (f_X7_refuses (-3) I A L) (fun v11 I8 A9 L10 => some (v11, I8, A9, L10))) else (g_b1 (f_X7_aside I A L) (fun I4 A5 L6 => f_X7_spare_p46 4096 a0 (-1) (-1) 6 I4 A5 L6)))))
def f_X7_type  (a0 : Int32) (I : Nat → Int32) (A : Nat → Nat → Int32) (L : Nat → Int64) : Option (Int32 × gS) :=
  Option.bind (f_X7_in I A L a0 0 127) (fun v2 => if v2 = 0 then (g_b2 (f_X7_refuses (-2) I A L) (fun v14 I11 A12 L13 => some (v14, I11, A12, L13))) else (if (I 950) = 120 then (g_b2 (f_X7_refuses (-4) I A L) (fun v9 I6 A7 L8 => some (v9, I6, A7, L8))) else (g_ck (I 950) 120 (g_lt (va_up A 64 (upd (A 64) (Int32.toNatClampNeg (I 950)) a0)) (fun A3 => g_lt (va_up I 950 ((I 950) + 1)) (fun I4 => some ((I4 950), I4, A3, L)))))))
def f_X7_clear   (I : Nat → Int32) (A : Nat → Nat → Int32) (L : Nat → Int64) : Option (Int32 × gS) :=
  g_lt (va_up I 950 0) (fun I1 => some ((I 950), I1, A, L))
def f_X7_byteAt (I : Nat → Int32) (A : Nat → Nat → Int32) (L : Nat → Int64) (a0 : Int32) : Option Int32 :=
  if (I 950) ≤ a0 then (some (-1)) else (g_ck a0 120 (some (A 64 (Int32.toNatClampNeg a0))))
def f_X7_skips_p0   : Nat → (Nat → Int32) → (Nat → Nat → Int32) → (Nat → Int64) → Option gS
  | 0 => fun _ _ _ => none
  | n + 1 => fun I A L => Option.bind (f_X7_byteAt I A L (I 951)) (fun v2 => if v2 = 32 then (g_lt (va_up I 951 ((I 951) + 1)) (fun I3 => f_X7_skips_p0 n  I3 A L)) else (some (I, A, L)))
def f_X7_skips   (I : Nat → Int32) (A : Nat → Nat → Int32) (L : Nat → Int64) : Option gS :=
  f_X7_skips_p0 4096 I A L
def f_X7_readsSign_p44  (k2 : Int32 → (Nat → Int32) → (Nat → Nat → Int32) → (Nat → Int64) → Option (Int32 × gS)) (x1 : Int32) (x2 : Int32) (s1 : Int32) (s2 : Int32) (I : Nat → Int32) (A : Nat → Nat → Int32) (L : Nat → Int64) : Option (Int32 × gS) :=
  g_lt (va_up I 951 (s1 + s2)) (fun I1 => g_b1 (f_X7_skips I1 A L) (fun I3 A4 L5 => Option.bind (f_X7_byteAt I3 A4 L5 (I3 951)) (fun v7 => Option.bind (f_X7_in I3 A4 L5 v7 48 51) (fun v9 => if v9 = 0 then (some (0, I3, A4, L5)) else (if x2 = 0 then (g_ck (I3 951) 120 (g_ck x1 3 (g_lt (va_up A4 68 (upd (A4 68) (Int32.toNatClampNeg x1) ((A4 64 (Int32.toNatClampNeg (I3 951))) - 48))) (fun A10 => g_lt (va_up I3 951 ((I3 951) + 1)) (fun I11 => k2 (x1 + 1) I11 A10 L5))))) else (g_ck (I3 951) 120 (g_ck x1 3 (g_lt (va_up A4 68 (upd (A4 68) (Int32.toNatClampNeg x1) (48 - (A4 64 (Int32.toNatClampNeg (I3 951)))))) (fun A12 => g_lt (va_up I3 951 ((I3 951) + 1)) (fun I13 => k2 (x1 + 1) I13 A12 L5))))))))))
def f_X7_readsSign_p29  (k2 : Int32 → (Nat → Int32) → (Nat → Nat → Int32) → (Nat → Int64) → Option (Int32 × gS)) (x1 : Int32) (s0 : Int32) (I : Nat → Int32) (A : Nat → Nat → Int32) (L : Nat → Int64) : Option (Int32 × gS) :=
  if s0 = 0 then (f_X7_readsSign_p44 k2 x1 s0 (I 951) 0 I A L) else (f_X7_readsSign_p44 k2 x1 s0 (I 951) 1 I A L)
def f_X7_readsSign_p2   : Nat → Int32 → (Nat → Int32) → (Nat → Nat → Int32) → (Nat → Int64) → Option (Int32 × gS)
  | 0 => fun _ _ _ _ => none
  | n + 1 => fun x1 I A L => if 3 ≤ x1 then (g_b1 (f_X7_skips I A L) (fun I2 A3 L4 => Option.bind (f_X7_byteAt I2 A3 L4 (I2 951)) (fun v6 => if v6 = 47 then (g_ck 0 3 (if (A3 68 (Int32.toNatClampNeg 0)) = 0 then (g_ck 1 3 (if (A3 68 (Int32.toNatClampNeg 1)) = 0 then (g_ck 2 3 (if (A3 68 (Int32.toNatClampNeg 2)) = 0 then (some (0, I2, A3, L4)) else (g_lt (va_up I2 951 ((I2 951) + 1)) (fun I9 => some (1, I9, A3, L4))))) else (g_lt (va_up I2 951 ((I2 951) + 1)) (fun I8 => some (1, I8, A3, L4))))) else (g_lt (va_up I2 951 ((I2 951) + 1)) (fun I7 => some (1, I7, A3, L4))))) else (some (0, I2, A3, L4))))) else (g_b1 (f_X7_skips I A L) (fun I11 A12 L13 => Option.bind (f_X7_byteAt I11 A12 L13 (I11 951)) (fun v15 => if v15 = 45 then (f_X7_readsSign_p29 (f_X7_readsSign_p2 n) x1 1 I11 A12 L13) else (f_X7_readsSign_p29 (f_X7_readsSign_p2 n) x1 0 I11 A12 L13))))
def f_X7_readsSign   (I : Nat → Int32) (A : Nat → Nat → Int32) (L : Nat → Int64) : Option (Int32 × gS) :=
  f_X7_readsSign_p2 4096 0 I A L
def f_X7_readsOff_p8   : Nat → Int32 → Int32 → (Nat → Int32) → (Nat → Nat → Int32) → (Nat → Int64) → Option (Int32 × gS)
  | 0 => fun _ _ _ _ _ => none
  | n + 1 => fun x1 x2 I A L => Option.bind (f_X7_byteAt I A L ((I 951) + x2)) (fun v2 => Option.bind (f_X7_in I A L v2 48 57) (fun v4 => if v4 = 0 then (if x2 = 0 then (some (0, I, A, L)) else (if 2 < x2 then (some (0, I, A, L)) else (Option.bind (f_X7_in I A L x1 1 60) (fun v6 => if v6 = 0 then (some (0, I, A, L)) else (g_lt (va_up I 951 ((I 951) + x2)) (fun I7 => some (x1, I7, A, L))))))) else (if 3 ≤ x2 then (f_X7_readsOff_p8 n x1 (x2 + 1) I A L) else (g_ck ((I 951) + x2) 120 (g_lt (((10 * x1) + (A 64 (Int32.toNatClampNeg ((I 951) + x2)))) - 48) (fun v8 => f_X7_readsOff_p8 n v8 (x2 + 1) I A L))))))
def f_X7_readsOff   (I : Nat → Int32) (A : Nat → Nat → Int32) (L : Nat → Int64) : Option (Int32 × gS) :=
  g_b1 (f_X7_skips I A L) (fun I2 A3 L4 => f_X7_readsOff_p8 4096 0 0 I2 A3 L4)
def f_X7_isFamily_p41 (I : Nat → Int32) (A : Nat → Nat → Int32) (L : Nat → Int64)  (x1 : Int32) : Option Int32 :=
  Option.bind (f_X7_byteAt I A L x1) (fun v2 => if v2 = 58 then (some 1) else (some 0))
def f_X7_isFamily_p5 (I : Nat → Int32) (A : Nat → Nat → Int32) (L : Nat → Int64)  : Nat → Int32 → Option Int32
  | 0 => fun _ => none
  | n + 1 => fun x1 => if (I 950) ≤ x1 then (f_X7_isFamily_p41 I A L x1) else (g_ck x1 120 (if (A 64 (Int32.toNatClampNeg x1)) = 59 then (f_X7_isFamily_p41 I A L x1) else (g_ck x1 120 (if (A 64 (Int32.toNatClampNeg x1)) = 58 then (f_X7_isFamily_p41 I A L x1) else (f_X7_isFamily_p5 I A L n (x1 + 1))))))
def f_X7_isFamily (I : Nat → Int32) (A : Nat → Nat → Int32) (L : Nat → Int64) : Option Int32 :=
  f_X7_isFamily_p5 I A L 4096 (I 951)
def f_X7_readsTurns_p6   : Nat → Int32 → (Nat → Int32) → (Nat → Nat → Int32) → (Nat → Int64) → Option (Int32 × gS)
  | 0 => fun _ _ _ _ => none
  | n + 1 => fun x1 I A L => Option.bind (f_X7_byteAt I A L (I 951)) (fun v2 => Option.bind (f_X7_in I A L v2 48 53) (fun v4 => if v4 = 0 then (if x1 = 0 then (some ((-1), I, A, L)) else (Option.bind (f_X7_byteAt I A L (I 951)) (fun v6 => if v6 = 58 then (g_lt (va_up I 951 ((I 951) + 1)) (fun I7 => some (x1, I7, A, L))) else (some ((-1), I, A, L))))) else (g_ck (I 951) 120 (g_lt (x1 ||| (1 <<< (((A 64 (Int32.toNatClampNeg (I 951))) - 48) &&& 31))) (fun v8 => g_lt (va_up I 951 ((I 951) + 1)) (fun I9 => g_b1 (f_X7_skips I9 A L) (fun I11 A12 L13 => f_X7_readsTurns_p6 n v8 I11 A12 L13)))))))
def f_X7_readsTurns   (I : Nat → Int32) (A : Nat → Nat → Int32) (L : Nat → Int64) : Option (Int32 × gS) :=
  g_b1 (f_X7_skips I A L) (fun I2 A3 L4 => f_X7_readsTurns_p6 4096 0 I2 A3 L4)
def f_X7_sentence_p17   (s0 : Int32) (I : Nat → Int32) (A : Nat → Nat → Int32) (L : Nat → Int64) : Option (Int32 × gS) :=
  if s0 < 0 then (some (0, I, A, L)) else (g_b2 (f_X7_readsSign I A L) (fun v5 I2 A3 L4 => if v5 = 0 then (some (0, I2, A3, L4)) else (g_b2 (f_X7_readsOff I2 A3 L4) (fun v10 I7 A8 L9 => if v10 = 0 then (some (0, I7, A8, L9)) else (g_b1 (f_X7_skips I7 A8 L9) (fun I12 A13 L14 => Option.bind (f_X7_byteAt I12 A13 L14 (I12 951)) (fun v16 => if v16 = 59 then (g_ck 0 129 (g_ck 0 3 (g_ck 1 3 (g_ck 2 3 (g_b2 (f_X7_laysFamily s0 (A13 68 (Int32.toNatClampNeg 0)) (A13 68 (Int32.toNatClampNeg 1)) (A13 68 (Int32.toNatClampNeg 2)) I12 A13 L14) (fun v21 I18 A19 L20 => if ((A13 60 (Int32.toNatClampNeg 0)) + v21) ≤ 32 then (g_lt (va_up I18 951 ((I18 951) + 1)) (fun I22 => g_b1 (f_X7_familyComes v10 I22 A19 L20) (fun I24 A25 L26 => some (1, I24, A25, L26)))) else (some (0, I18, A19, L20)))))))) else (some (0, I12, A13, L14)))))))))
def f_X7_sentence   (I : Nat → Int32) (A : Nat → Nat → Int32) (L : Nat → Int64) : Option (Int32 × gS) :=
  Option.bind (f_X7_isFamily I A L) (fun v2 => if v2 = 0 then (f_X7_sentence_p17 0 I A L) else (g_b2 (f_X7_readsTurns I A L) (fun v7 I4 A5 L6 => f_X7_sentence_p17 v7 I4 A5 L6)))
def f_X7_reads_p51   (x2 : Int32) (I : Nat → Int32) (A : Nat → Nat → Int32) (L : Nat → Int64) : Option (Int32 × gS) :=
  if x2 = 0 then (g_b1 (f_X7_restores I A L) (fun I6 A7 L8 => some (((-10) - (I6 951)), I6, A7, L8))) else (g_b1 (f_X7_keeps I A L) (fun I2 A3 L4 => g_ck 0 129 (g_ck 0 129 (some (((A3 60 (Int32.toNatClampNeg 0)) - (A3 62 (Int32.toNatClampNeg 0))), I2, A3, L4)))))
def f_X7_reads_p36  (k17 : Int32 → Int32 → (Nat → Int32) → (Nat → Nat → Int32) → (Nat → Int64) → Option (Int32 × gS)) (x1 : Int32) (I : Nat → Int32) (A : Nat → Nat → Int32) (L : Nat → Int64) : Option (Int32 × gS) :=
  g_b2 (f_X7_sentence I A L) (fun v5 I2 A3 L4 => g_b1 (f_X7_skips I2 A3 L4) (fun I7 A8 L9 => k17 (x1 + 1) v5 I7 A8 L9))
def f_X7_reads_p17   : Nat → Int32 → Int32 → (Nat → Int32) → (Nat → Nat → Int32) → (Nat → Int64) → Option (Int32 × gS)
  | 0 => fun _ _ _ _ _ => none
  | n + 1 => fun x1 x2 I A L => if x2 = 0 then (f_X7_reads_p51 x2 I A L) else (if (I 951) < (I 950) then (f_X7_reads_p36 (f_X7_reads_p17 n) x1 I A L) else (if x1 = 0 then (f_X7_reads_p36 (f_X7_reads_p17 n) x1 I A L) else (f_X7_reads_p51 x2 I A L)))
def f_X7_reads   (I : Nat → Int32) (A : Nat → Nat → Int32) (L : Nat → Int64) : Option (Int32 × gS) :=
  g_b1 (f_X7_aside I A L) (fun I2 A3 L4 => g_lt (va_up I2 951 0) (fun I5 => g_b1 (f_X7_skips I5 A3 L4) (fun I7 A8 L9 => f_X7_reads_p17 4096 0 1 I7 A8 L9)))
def f_X7_back_p26   : Nat → Int32 → (Nat → Int32) → (Nat → Nat → Int32) → (Nat → Int64) → Option (Int32 × gS)
  | 0 => fun _ _ _ _ => none
  | n + 1 => fun x1 I A L => if 129 ≤ x1 then (some ((I 946), I, A, L)) else (g_ck ((129 * (I 946)) + x1) 645 (g_ck x1 129 (g_lt (va_up A 60 (upd (A 60) (Int32.toNatClampNeg x1) (A 61 (Int32.toNatClampNeg ((129 * (I 946)) + x1))))) (fun A1 => f_X7_back_p26 n (x1 + 1) I A1 L))))
def f_X7_back   (I : Nat → Int32) (A : Nat → Nat → Int32) (L : Nat → Int64) : Option (Int32 × gS) :=
  if (I 946) = 0 then (g_b2 (f_X7_refuses (-3) I A L) (fun v6 I3 A4 L5 => some (v6, I3, A4, L5))) else (g_lt (va_up I 946 ((I 946) - 1)) (fun I1 => f_X7_back_p26 4096 0 I1 A L))
def f_X7_toldOf (I : Nat → Int32) (A : Nat → Nat → Int32) (L : Nat → Int64) (a0 : Int32) : Option Int32 :=
  if 3 ≤ a0 then (if a0 = 3 then (some (I 950)) else (if a0 = 4 then (g_ck 0 129 (some (A 60 (Int32.toNatClampNeg 0)))) else (some (I 946)))) else (g_ck a0 3 (some (A 63 (Int32.toNatClampNeg a0))))
def f_X7_told  (a0 : Int32) (I : Nat → Int32) (A : Nat → Nat → Int32) (L : Nat → Int64) : Option (Int32 × gS) :=
  Option.bind (f_X7_in I A L a0 0 5) (fun v2 => if v2 = 0 then (g_b2 (f_X7_refuses (-2) I A L) (fun v7 I4 A5 L6 => some (v7, I4, A5, L6))) else (Option.bind (f_X7_toldOf I A L a0) (fun v9 => some (v9, I, A, L))))
def f_X7_digest_p176  (k165 : Int64 → Int32 → (Nat → Int32) → (Nat → Nat → Int32) → (Nat → Int64) → Option (Int64 × gS)) : Nat → Int64 → Int32 → Int32 → (Nat → Int32) → (Nat → Nat → Int32) → (Nat → Int64) → Option (Int64 × gS)
  | 0 => fun _ _ _ _ _ _ => none
  | n + 1 => fun x1 x3 x4 I A L => if 3 ≤ x4 then (k165 x1 (x3 + 1) I A L) else (g_ck ((5 * x3) + x4) 320 (g_ck ((5 * x3) + 3) 320 (Option.bind (f_X7_common I A L (A 65 (Int32.toNatClampNeg ((5 * x3) + x4))) (A 65 (Int32.toNatClampNeg ((5 * x3) + 3)))) (fun v2 => g_ck ((5 * x3) + x4) 320 (g_dv v2 (g_lt ((31 * x1) + (Int32.toInt64 ((A 65 (Int32.toNatClampNeg ((5 * x3) + x4))) / v2))) (fun v4 => g_ck ((5 * x3) + 3) 320 (g_dv v2 (g_lt ((31 * v4) + (Int32.toInt64 ((A 65 (Int32.toNatClampNeg ((5 * x3) + 3))) / v2))) (fun v6 => f_X7_digest_p176 k165 n v6 x3 (x4 + 1) I A L))))))))))
def f_X7_digest_p165   : Nat → Int64 → Int32 → (Nat → Int32) → (Nat → Nat → Int32) → (Nat → Int64) → Option (Int64 × gS)
  | 0 => fun _ _ _ _ _ => none
  | n + 1 => fun x1 x3 I A L => if (I 955) ≤ x3 then (some (x1, I, A, L)) else (f_X7_digest_p176 (f_X7_digest_p165 n) 4096 x1 x3 0 I A L)
def f_X7_digest_p50  (k37 : Int64 → Int32 → (Nat → Int32) → (Nat → Nat → Int32) → (Nat → Int64) → Option (Int64 × gS)) : Nat → Int64 → Int32 → Int32 → (Nat → Int32) → (Nat → Nat → Int32) → (Nat → Int64) → Option (Int64 × gS)
  | 0 => fun _ _ _ _ _ _ => none
  | n + 1 => fun x1 x3 x4 I A L => if 4 ≤ x4 then (g_ck x3 32 (if (A 66 (Int32.toNatClampNeg x3)) = 0 then (g_lt ((31 * x1) + (Int32.toInt64 0)) (fun v1 => k37 v1 (x3 + 1) I A L)) else (g_lt ((31 * x1) + (Int32.toInt64 1)) (fun v2 => k37 v2 (x3 + 1) I A L)))) else (Option.bind (f_X7_get I A L x3 x4) (fun v4 => g_lt ((31 * x1) + (Int32.toInt64 v4)) (fun v5 => f_X7_digest_p50 k37 n v5 x3 (x4 + 1) I A L)))
def f_X7_digest_p37   : Nat → Int64 → Int32 → (Nat → Int32) → (Nat → Nat → Int32) → (Nat → Int64) → Option (Int64 × gS)
  | 0 => fun _ _ _ _ _ => none
  | n + 1 => fun x1 x3 I A L => g_ck 0 129 (if (A 60 (Int32.toNatClampNeg 0)) ≤ x3 then (Option.bind (f_X7_showing I A L) (fun v2 => g_lt ((31 * x1) + (Int32.toInt64 v2)) (fun v3 => g_lt ((31 * v3) + (Int32.toInt64 (I 955))) (fun v4 => Option.bind (f_X7_edges I A L) (fun v6 => g_lt ((31 * v4) + (Int32.toInt64 v6)) (fun v7 => g_lt ((31 * v7) + (L 952)) (fun v8 => g_lt ((31 * v8) + (L 953)) (fun v9 => f_X7_digest_p165 4096 v9 0 I A L)))))))) else (f_X7_digest_p50 (f_X7_digest_p37 n) 4096 x1 x3 0 I A L))
def f_X7_digest_p6   : Nat → Int64 → Int32 → (Nat → Int32) → (Nat → Nat → Int32) → (Nat → Int64) → Option (Int64 × gS)
  | 0 => fun _ _ _ _ _ => none
  | n + 1 => fun x1 x3 I A L => if 6 ≤ x3 then (g_b1 (f_X7_lays I A L) (fun I2 A3 L4 => f_X7_digest_p37 4096 x1 0 I2 A3 L4)) else (Option.bind (f_X7_toldOf I A L x3) (fun v6 => g_lt ((31 * x1) + (Int32.toInt64 v6)) (fun v7 => f_X7_digest_p6 n v7 (x3 + 1) I A L)))
def f_X7_digest   (I : Nat → Int32) (A : Nat → Nat → Int32) (L : Nat → Int64) : Option (Int64 × gS) :=
  f_X7_digest_p6 4096 2179 0 I A L
