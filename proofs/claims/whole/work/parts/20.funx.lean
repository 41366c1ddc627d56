def f_X2_put (b : Nat) (a0 : Int32) (a1 : Int32) (a2 : Int32) (a3 : Int32) (I : Nat → Int32) (A : Nat → Nat → Int32) (L : Nat → Int64) : Option gS :=
  if 32 ≤ (I (16 * b + 4)) then (some (I, A, L)) else (g_ck (I (16 * b + 4)) 32 (g_lt (va_up A (b + 1) (upd (A (b + 1)) (Int32.toNatClampNeg (I (16 * b + 4))) a0)) (fun A1 => g_ck (I (16 * b + 4)) 32 (g_lt (va_up A1 (b + 2) (upd (A1 (b + 2)) (Int32.toNatClampNeg (I (16 * b + 4))) a1)) (fun A2 => g_ck (I (16 * b + 4)) 32 (g_lt (va_up A2 (b + 3) (upd (A2 (b + 3)) (Int32.toNatClampNeg (I (16 * b + 4))) a2)) (fun A3 => g_ck (I (16 * b + 4)) 32 (g_lt (va_up A3 (b + 4) (upd (A3 (b + 4)) (Int32.toNatClampNeg (I (16 * b + 4))) a3)) (fun A4 => g_lt (va_up I (16 * b + 4) ((I (16 * b + 4)) + 1)) (fun I5 => some (I5, A4, L)))))))))))
def f_X2_becomeBox (b : Nat)  (I : Nat → Int32) (A : Nat → Nat → Int32) (L : Nat → Int64) : Option gS :=
  g_lt (va_up I (16 * b + 4) 0) (fun I1 => g_b1 (f_X2_put b 1 0 0 20 I1 A L) (fun I3 A4 L5 => g_b1 (f_X2_put b (-1) 0 0 20 I3 A4 L5) (fun I7 A8 L9 => g_b1 (f_X2_put b 0 1 0 20 I7 A8 L9) (fun I11 A12 L13 => g_b1 (f_X2_put b 0 (-1) 0 20 I11 A12 L13) (fun I15 A16 L17 => g_b1 (f_X2_put b 0 0 1 20 I15 A16 L17) (fun I19 A20 L21 => g_b1 (f_X2_put b 0 0 (-1) 20 I19 A20 L21) (fun I23 A24 L25 => some (I23, A24, L25))))))))
def f_X6_refuseBad  (a0 : Int32) (I : Nat → Int32) (A : Nat → Nat → Int32) (L : Nat → Int64) : Option (Int32 × gS) :=
  g_lt (va_up I 13 ((I 13) + 1)) (fun I1 => some (a0, I1, A, L))
def f_X6_isSignNumber (I : Nat → Int32) (A : Nat → Nat → Int32) (L : Nat → Int64) (a0 : Int32) : Option Int32 :=
  if a0 < (-3) then (some 0) else (if 3 < a0 then (some 0) else (some 1))
def f_X6_isSign (I : Nat → Int32) (A : Nat → Nat → Int32) (L : Nat → Int64) (a0 : Int32) (a1 : Int32) (a2 : Int32) : Option Int32 :=
  Option.bind (f_X6_isSignNumber I A L a0) (fun v2 => if v2 = 0 then (some 0) else (Option.bind (f_X6_isSignNumber I A L a1) (fun v4 => if v4 = 0 then (some 0) else (Option.bind (f_X6_isSignNumber I A L a2) (fun v6 => if v6 = 0 then (some 0) else (if a0 = 0 then (if a1 = 0 then (if a2 = 0 then (some 0) else (some 1)) else (some 1)) else (some 1)))))))
def f_X6_isOff (I : Nat → Int32) (A : Nat → Nat → Int32) (L : Nat → Int64) (a0 : Int32) : Option Int32 :=
  if a0 < 1 then (some 0) else (if 60 < a0 then (some 0) else (some 1))
def f_X2_copyFrom (b : Nat) (q1 : Nat)  (I : Nat → Int32) (A : Nat → Nat → Int32) (L : Nat → Int64) : Option gS :=
  g_lt (va_up I (16 * b + 4) (I (16 * q1 + 4))) (fun I1 => g_cp 0 0 (I1 (16 * b + 4)) 32 32 (g_lt (va_up A (b + 1) (va_cpy (A (q1 + 1)) (A (b + 1)) (Int32.toNatClampNeg 0) (Int32.toNatClampNeg 0) (Int32.toNatClampNeg (I1 (16 * b + 4))))) (fun A2 => g_cp 0 0 (I1 (16 * b + 4)) 32 32 (g_lt (va_up A2 (b + 2) (va_cpy (A2 (q1 + 2)) (A2 (b + 2)) (Int32.toNatClampNeg 0) (Int32.toNatClampNeg 0) (Int32.toNatClampNeg (I1 (16 * b + 4))))) (fun A3 => g_cp 0 0 (I1 (16 * b + 4)) 32 32 (g_lt (va_up A3 (b + 3) (va_cpy (A3 (q1 + 3)) (A3 (b + 3)) (Int32.toNatClampNeg 0) (Int32.toNatClampNeg 0) (Int32.toNatClampNeg (I1 (16 * b + 4))))) (fun A4 => g_cp 0 0 (I1 (16 * b + 4)) 32 32 (g_lt (va_up A4 (b + 4) (va_cpy (A4 (q1 + 4)) (A4 (b + 4)) (Int32.toNatClampNeg 0) (Int32.toNatClampNeg 0) (Int32.toNatClampNeg (I1 (16 * b + 4))))) (fun A5 => some (I1, A5, L))))))))))
def f_X5_keep (q1 : Nat)  (I : Nat → Int32) (A : Nat → Nat → Int32) (L : Nat → Int64) : Option gS :=
  g_lt (va_up I 177 (((I 177) + 1) - ((I 177) + 1) / 5 * 5)) (fun I1 => g_ck (I1 177) 5 (g_b1 (f_X2_copyFrom (13 + 5 * (Int32.toNatClampNeg (I1 177))) q1 I1 A L) (fun I5 A6 L7 => g_lt (va_up I5 178 (if ((I5 178) + 1) < 5 then ((I5 178) + 1) else 5)) (fun I8 => some (I8, A6, L7)))))
def f_X6_forgetCrystal   (I : Nat → Int32) (A : Nat → Nat → Int32) (L : Nat → Int64) : Option gS :=
  g_lt (va_up I 7 0) (fun I1 => g_lt (va_up I1 8 0) (fun I2 => some (I2, A, L)))
def f_X6_leaveState   (I : Nat → Int32) (A : Nat → Nat → Int32) (L : Nat → Int64) : Option gS :=
  g_b1 (f_X5_keep 1 I A L) (fun I2 A3 L4 => g_b1 (f_X6_forgetCrystal I2 A3 L4) (fun I6 A7 L8 => some (I6, A7, L8)))
def f_X6_refuseFull   (I : Nat → Int32) (A : Nat → Nat → Int32) (L : Nat → Int64) : Option (Int32 × gS) :=
  g_lt (va_up I 15 ((I 15) + 1)) (fun I1 => some ((-4), I1, A, L))
def f_X6_plane_p17   (I : Nat → Int32) (A : Nat → Nat → Int32) (L : Nat → Int64) : Option (Int32 × gS) :=
  g_b2 (f_X6_refuseBad (-2) I A L) (fun v5 I2 A3 L4 => some (v5, I2, A3, L4))
def f_X6_plane  (a0 : Int32) (a1 : Int32) (a2 : Int32) (a3 : Int32) (I : Nat → Int32) (A : Nat → Nat → Int32) (L : Nat → Int64) : Option (Int32 × gS) :=
  Option.bind (f_X6_isSign I A L a0 a1 a2) (fun v2 => if v2 = 0 then (f_X6_plane_p17 I A L) else (Option.bind (f_X6_isOff I A L a3) (fun v4 => if v4 = 0 then (f_X6_plane_p17 I A L) else (if (I 20) < 32 then (g_b1 (f_X6_leaveState I A L) (fun I6 A7 L8 => g_b1 (f_X2_put 1 a0 a1 a2 a3 I6 A7 L8) (fun I10 A11 L12 => some (((I10 20) - 1), I10, A11, L12)))) else (g_b2 (f_X6_refuseFull I A L) (fun v17 I14 A15 L16 => some (v17, I14, A15, L16)))))))
def f_X6_isTurnSet (I : Nat → Int32) (A : Nat → Nat → Int32) (L : Nat → Int64) (a0 : Int32) : Option Int32 :=
  if a0 < 0 then (some 0) else (if 63 < a0 then (some 0) else (some 1))
def f_X0_putInOrder_p4   : Nat → Int32 → Int32 → (Nat → Int32) → (Nat → Nat → Int32) → (Nat → Int64) → Option gS
  | 0 => fun _ _ _ _ _ => none
  | n + 1 => fun x1 x2 I A L => if 667 ≤ x2 then (some (I, A, L)) else (if (I 866) ≤ x1 then (some (I, A, L)) else (g_ck x2 667 (if (A 55 (Int32.toNatClampNeg x2)) = 0 then (f_X0_putInOrder_p4 n x1 (x2 + 1) I A L) else (g_ck x1 48 (g_lt (va_up A 56 (upd (A 56) (Int32.toNatClampNeg x1) x2)) (fun A1 => f_X0_putInOrder_p4 n (x1 + 1) (x2 + 1) I A1 L))))))
def f_X0_putInOrder   (I : Nat → Int32) (A : Nat → Nat → Int32) (L : Nat → Int64) : Option gS :=
  f_X0_putInOrder_p4 4096 0 0 I A L
def f_X6_turned (I : Nat → Int32) (A : Nat → Nat → Int32) (L : Nat → Int64) (a0 : Int32) (a1 : Int32) (a2 : Int32) (a3 : Int32) (a4 : Int32) : Option Int32 :=
  g_lt ((3 * a0) + a1) (fun v1 => if v1 < 0 then (some 0) else (if v1 < 18 then (g_ck v1 18 (g_lt (g_tf.getD (Int32.toNatClampNeg v1) 0) (fun v2 => if v2 = 0 then (g_ck v1 18 (some ((g_ts.getD (Int32.toNatClampNeg v1) 0) * a2))) else (if v2 = 1 then (g_ck v1 18 (some ((g_ts.getD (Int32.toNatClampNeg v1) 0) * a3))) else (g_ck v1 18 (some ((g_ts.getD (Int32.toNatClampNeg v1) 0) * a4))))))) else (some 0)))
def f_X0_note  (a0 : Int32) (a1 : Int32) (a2 : Int32) (I : Nat → Int32) (A : Nat → Nat → Int32) (L : Nat → Int64) : Option gS :=
  g_lt ((((100 * (a0 + 3)) + (10 * (a1 + 3))) + a2) + 3) (fun v1 => if v1 < 0 then (some (I, A, L)) else (if 667 ≤ v1 then (some (I, A, L)) else (g_ck v1 667 (if (A 55 (Int32.toNatClampNeg v1)) = 0 then (if 48 ≤ (I 866) then (some (I, A, L)) else (g_ck v1 667 (g_lt (va_up A 55 (upd (A 55) (Int32.toNatClampNeg v1) (vp_nar .byte 1))) (fun A2 => g_ck (I 866) 48 (g_lt (va_up A2 56 (upd (A2 56) (Int32.toNatClampNeg (I 866)) v1)) (fun A3 => g_lt (va_up I 866 ((I 866) + 1)) (fun I4 => some (I4, A3, L)))))))) else (some (I, A, L))))))
def f_X0_noteTurned_p29   : Nat → Int32 → Int32 → Int32 → Int32 → Int32 → (Nat → Int32) → (Nat → Nat → Int32) → (Nat → Int64) → Option gS
  | 0 => fun _ _ _ _ _ _ _ _ => none
  | n + 1 => fun x1 x3 x4 x5 x6 I A L => if 6 ≤ x6 then (some (I, A, L)) else (if ((x1 >>> (x6 &&& 31)) &&& 1) = 1 then (Option.bind (f_X6_turned I A L x6 0 x3 x4 x5) (fun v2 => Option.bind (f_X6_turned I A L x6 1 x3 x4 x5) (fun v4 => Option.bind (f_X6_turned I A L x6 2 x3 x4 x5) (fun v6 => g_b1 (f_X0_note v2 v4 v6 I A L) (fun I8 A9 L10 => f_X0_noteTurned_p29 n x1 x3 x4 x5 (x6 + 1) I8 A9 L10))))) else (f_X0_noteTurned_p29 n x1 x3 x4 x5 (x6 + 1) I A L))
def f_X0_noteTurned  (a0 : Int32) (a1 : Int32) (I : Nat → Int32) (A : Nat → Nat → Int32) (L : Nat → Int64) : Option gS :=
  g_lt ((a1 / 100) - 3) (fun v1 => g_lt (((a1 / 10) - (a1 / 10) / 10 * 10) - 3) (fun v2 => g_lt ((a1 - a1 / 10 * 10) - 3) (fun v3 => f_X0_noteTurned_p29 4096 a0 v1 v2 v3 0 I A L)))
def f_J7_fill_031fb_p5 (q1 : Nat)  : Nat → Int32 → Int32 → Int32 → (Nat → Int32) → (Nat → Nat → Int32) → (Nat → Int64) → Option gS
  | 0 => fun _ _ _ _ _ _ => none
  | n + 1 => fun x1 x2 x3 I A L => if x3 ≤ x2 then (some (I, A, L)) else (g_ck x2 667 (g_lt (va_up A q1 (upd (A q1) (Int32.toNatClampNeg x2) (vp_nar .byte x1))) (fun A1 => f_J7_fill_031fb_p5 q1 n x1 (x2 + 1) x3 I A1 L)))
def f_J7_fill_031fb (q1 : Nat) (a0 : Int32) (I : Nat → Int32) (A : Nat → Nat → Int32) (L : Nat → Int64) : Option gS :=
  f_J7_fill_031fb_p5 q1 4096 a0 0 667 I A L
def f_X0_gather_p58   (I : Nat → Int32) (A : Nat → Nat → Int32) (L : Nat → Int64) : Option gS :=
  g_b1 (f_X0_putInOrder I A L) (fun I2 A3 L4 => some (I2, A3, L4))
def f_X0_gather_p24   : Nat → Int32 → Int32 → (Nat → Int32) → (Nat → Nat → Int32) → (Nat → Int64) → Option gS
  | 0 => fun _ _ _ _ _ => none
  | n + 1 => fun x1 x5 I A L => if (I 866) ≤ x5 then (f_X0_gather_p58 I A L) else (if 48 ≤ x5 then (f_X0_gather_p58 I A L) else (g_ck x5 48 (g_b1 (f_X0_noteTurned x1 (A 56 (Int32.toNatClampNeg x5)) I A L) (fun I2 A3 L4 => f_X0_gather_p24 n x1 (x5 + 1) I2 A3 L4))))
def f_X0_gather  (a0 : Int32) (a1 : Int32) (a2 : Int32) (a3 : Int32) (I : Nat → Int32) (A : Nat → Nat → Int32) (L : Nat → Int64) : Option gS :=
  g_b1 (f_J7_fill_031fb 55 0 I A L) (fun I2 A3 L4 => g_lt (va_up I2 866 0) (fun I5 => g_b1 (f_X0_note a1 a2 a3 I5 A3 L4) (fun I7 A8 L9 => f_X0_gather_p24 4096 a0 0 I7 A8 L9)))
def f_X2_putFamily_p2 (b : Nat) (q1 : Nat)  : Nat → Int32 → Int32 → (Nat → Int32) → (Nat → Nat → Int32) → (Nat → Int64) → Option gS
  | 0 => fun _ _ _ _ _ => none
  | n + 1 => fun x2 x3 I A L => if (I (16 * q1 + 2)) ≤ x3 then (some (I, A, L)) else (g_ck x3 48 (g_lt (A (q1 + 2) (Int32.toNatClampNeg x3)) (fun v1 => g_b1 (f_X2_put b ((v1 / 100) - 3) (((v1 / 10) - (v1 / 10) / 10 * 10) - 3) ((v1 - v1 / 10 * 10) - 3) x2 I A L) (fun I3 A4 L5 => f_X2_putFamily_p2 b q1 n x2 (x3 + 1) I3 A4 L5))))
def f_X2_putFamily (b : Nat) (q1 : Nat) (a0 : Int32) (I : Nat → Int32) (A : Nat → Nat → Int32) (L : Nat → Int64) : Option gS :=
  f_X2_putFamily_p2 b q1 4096 a0 0 I A L
def f_X6_family_p25   (I : Nat → Int32) (A : Nat → Nat → Int32) (L : Nat → Int64) : Option (Int32 × gS) :=
  g_b2 (f_X6_refuseBad (-2) I A L) (fun v5 I2 A3 L4 => some (v5, I2, A3, L4))
def f_X6_family  (a0 : Int32) (a1 : Int32) (a2 : Int32) (a3 : Int32) (a4 : Int32) (I : Nat → Int32) (A : Nat → Nat → Int32) (L : Nat → Int64) : Option (Int32 × gS) :=
  Option.bind (f_X6_isTurnSet I A L a0) (fun v2 => if v2 = 0 then (f_X6_family_p25 I A L) else (Option.bind (f_X6_isSign I A L a1 a2 a3) (fun v4 => if v4 = 0 then (f_X6_family_p25 I A L) else (Option.bind (f_X6_isOff I A L a4) (fun v6 => if v6 = 0 then (f_X6_family_p25 I A L) else (g_b1 (f_X0_gather a0 a1 a2 a3 I A L) (fun I8 A9 L10 => if ((I8 20) + (I8 866)) ≤ 32 then (g_b1 (f_X6_leaveState I8 A9 L10) (fun I12 A13 L14 => g_b1 (f_X2_putFamily 1 54 a4 I12 A13 L14) (fun I16 A17 L18 => some ((I16 866), I16, A17, L18)))) else (g_b2 (f_X6_refuseFull I8 A9 L10) (fun v23 I20 A21 L22 => some (v23, I20, A21, L22))))))))))
def f_X6_isPlane (I : Nat → Int32) (A : Nat → Nat → Int32) (L : Nat → Int64) (a0 : Int32) : Option Int32 :=
  if a0 < 0 then (some 0) else (if (I 20) ≤ a0 then (some 0) else (some 1))
def f_X6_off_p15   (I : Nat → Int32) (A : Nat → Nat → Int32) (L : Nat → Int64) : Option (Int32 × gS) :=
  g_b2 (f_X6_refuseBad (-2) I A L) (fun v5 I2 A3 L4 => some (v5, I2, A3, L4))
def f_X6_off  (a0 : Int32) (a1 : Int32) (I : Nat → Int32) (A : Nat → Nat → Int32) (L : Nat → Int64) : Option (Int32 × gS) :=
  Option.bind (f_X6_isPlane I A L a0) (fun v2 => if v2 = 0 then (f_X6_off_p15 I A L) else (Option.bind (f_X6_isOff I A L a1) (fun v4 => if v4 = 0 then (f_X6_off_p15 I A L) else (g_b1 (f_X6_leaveState I A L) (fun I6 A7 L8 => g_ck a0 32 (g_lt (A7 5 (Int32.toNatClampNeg a0)) (fun v9 => g_ck a0 32 (g_lt (va_up A7 5 (upd (A7 5) (Int32.toNatClampNeg a0) a1)) (fun A10 => some (v9, I6, A10, L8))))))))))
def f_X2_takeOut_p2 (b : Nat)  : Nat → Int32 → (Nat → Int32) → (Nat → Nat → Int32) → (Nat → Int64) → Option gS
  | 0 => fun _ _ _ _ => none
  | n + 1 => fun x2 I A L => if (I (16 * b + 4)) ≤ (x2 + 1) then (g_lt (va_up I (16 * b + 4) ((I (16 * b + 4)) - 1)) (fun I1 => some (I1, A, L))) else (g_ck (x2 + 1) 32 (g_ck x2 32 (g_lt (va_up A (b + 1) (upd (A (b + 1)) (Int32.toNatClampNeg x2) (A (b + 1) (Int32.toNatClampNeg (x2 + 1))))) (fun A2 => g_ck (x2 + 1) 32 (g_ck x2 32 (g_lt (va_up A2 (b + 2) (upd (A2 (b + 2)) (Int32.toNatClampNeg x2) (A2 (b + 2) (Int32.toNatClampNeg (x2 + 1))))) (fun A3 => g_ck (x2 + 1) 32 (g_ck x2 32 (g_lt (va_up A3 (b + 3) (upd (A3 (b + 3)) (Int32.toNatClampNeg x2) (A3 (b + 3) (Int32.toNatClampNeg (x2 + 1))))) (fun A4 => g_ck (x2 + 1) 32 (g_ck x2 32 (g_lt (va_up A4 (b + 4) (upd (A4 (b + 4)) (Int32.toNatClampNeg x2) (A4 (b + 4) (Int32.toNatClampNeg (x2 + 1))))) (fun A5 => f_X2_takeOut_p2 b n (x2 + 1) I A5 L)))))))))))))
def f_X2_takeOut (b : Nat) (a0 : Int32) (I : Nat → Int32) (A : Nat → Nat → Int32) (L : Nat → Int64) : Option gS :=
  f_X2_takeOut_p2 b 4096 a0 I A L
def f_X6_drop_p14   (I : Nat → Int32) (A : Nat → Nat → Int32) (L : Nat → Int64) : Option (Int32 × gS) :=
  g_b2 (f_X6_refuseBad (-2) I A L) (fun v5 I2 A3 L4 => some (v5, I2, A3, L4))
def f_X6_drop  (a0 : Int32) (I : Nat → Int32) (A : Nat → Nat → Int32) (L : Nat → Int64) : Option (Int32 × gS) :=
  Option.bind (f_X6_isPlane I A L a0) (fun v2 => if v2 = 0 then (f_X6_drop_p14 I A L) else (if 6 ≤ a0 then (g_b1 (f_X6_leaveState I A L) (fun I4 A5 L6 => g_b1 (f_X2_takeOut 1 a0 I4 A5 L6) (fun I8 A9 L10 => some ((I8 20), I8, A9, L10)))) else (f_X6_drop_p14 I A L)))
def f_X6_anew   (I : Nat → Int32) (A : Nat → Nat → Int32) (L : Nat → Int64) : Option (Int32 × gS) :=
  g_b1 (f_X6_leaveState I A L) (fun I2 A3 L4 => g_b1 (f_X2_becomeBox 1 I2 A3 L4) (fun I6 A7 L8 => some ((I 20), I6, A7, L8)))
def f_X1_lay (b : Nat) (q1 : Nat) (a0 : Int32) (a1 : Int32) (I : Nat → Int32) (A : Nat → Nat → Int32) (L : Nat → Int64) : Option (Int32 × gS) :=
  g_ck a0 32 (g_lt (A (q1 + 1) (Int32.toNatClampNeg a0)) (fun v1 => g_ck a0 32 (g_lt (A (q1 + 2) (Int32.toNatClampNeg a0)) (fun v2 => g_ck a0 32 (g_lt (A (q1 + 3) (Int32.toNatClampNeg a0)) (fun v3 => g_ck a0 32 (g_lt (A (q1 + 4) (Int32.toNatClampNeg a0)) (fun v4 => g_ck a1 32 (g_lt (A (q1 + 1) (Int32.toNatClampNeg a1)) (fun v5 => g_ck a1 32 (g_lt (A (q1 + 2) (Int32.toNatClampNeg a1)) (fun v6 => g_ck a1 32 (g_lt (A (q1 + 3) (Int32.toNatClampNeg a1)) (fun v7 => g_ck a1 32 (g_lt (A (q1 + 4) (Int32.toNatClampNeg a1)) (fun v8 => g_lt (va_up I (16 * b + 0) ((v2 * v7) - (v3 * v6))) (fun I9 => g_lt (va_up I9 (16 * b + 1) ((v3 * v5) - (v1 * v7))) (fun I10 => g_lt (va_up I10 (16 * b + 2) ((v1 * v6) - (v2 * v5))) (fun I11 => g_lt (va_up I11 (16 * b + 6) ((((I11 (16 * b + 0)) * (I11 (16 * b + 0))) + ((I11 (16 * b + 1)) * (I11 (16 * b + 1)))) + ((I11 (16 * b + 2)) * (I11 (16 * b + 2))))) (fun I12 => if (I12 (16 * b + 6)) = 0 then (some (0, I12, A, L)) else (g_lt (va_up I12 (16 * b + 3) ((v4 * ((v6 * (I12 (16 * b + 2))) - (v7 * (I12 (16 * b + 1))))) + (v8 * (((I12 (16 * b + 1)) * v3) - ((I12 (16 * b + 2)) * v2))))) (fun I13 => g_lt (va_up I13 (16 * b + 4) ((v4 * ((v7 * (I13 (16 * b + 0))) - (v5 * (I13 (16 * b + 2))))) + (v8 * (((I13 (16 * b + 2)) * v1) - ((I13 (16 * b + 0)) * v3))))) (fun I14 => g_lt (va_up I14 (16 * b + 5) ((v4 * ((v5 * (I14 (16 * b + 1))) - (v6 * (I14 (16 * b + 0))))) + (v8 * (((I14 (16 * b + 0)) * v2) - ((I14 (16 * b + 1)) * v1))))) (fun I15 => g_lt (va_up I15 (16 * b + 7) (-1)) (fun I16 => g_lt (va_up I16 (16 * b + 8) 0) (fun I17 => g_lt (va_up I17 (16 * b + 9) 1) (fun I18 => g_lt (va_up I18 (16 * b + 10) 0) (fun I19 => some (1, I19, A, L)))))))))))))))))))))))))))))
def f_X1_isLeftBehind_p164 (b : Nat) (q1 : Nat)  (I : Nat → Int32) (A : Nat → Nat → Int32) (L : Nat → Int64) : Option (Int32 × gS) :=
  if ((I (16 * b + 9)) * (I (16 * b + 8))) < ((I (16 * b + 7)) * (I (16 * b + 10))) then (some (0, I, A, L)) else (some (1, I, A, L))
def f_X1_isLeftBehind_p131 (b : Nat) (q1 : Nat)  (x3 : Int32) (x4 : Int32) (I : Nat → Int32) (A : Nat → Nat → Int32) (L : Nat → Int64) : Option (Int32 × gS) :=
  if 0 ≤ x3 then (f_X1_isLeftBehind_p164 b q1 I A L) else (if ((I (16 * b + 7)) * x3) ≤ (x4 * (I (16 * b + 8))) then (f_X1_isLeftBehind_p164 b q1 I A L) else (g_lt (va_up I (16 * b + 7) (-x4)) (fun I1 => g_lt (va_up I1 (16 * b + 8) (-x3)) (fun I2 => f_X1_isLeftBehind_p164 b q1 I2 A L))))
def f_X1_isLeftBehind (b : Nat) (q1 : Nat) (a0 : Int32) (I : Nat → Int32) (A : Nat → Nat → Int32) (L : Nat → Int64) : Option (Int32 × gS) :=
  g_ck a0 32 (g_ck a0 32 (g_ck a0 32 (g_lt ((((A (q1 + 1) (Int32.toNatClampNeg a0)) * (I (16 * b + 0))) + ((A (q1 + 2) (Int32.toNatClampNeg a0)) * (I (16 * b + 1)))) + ((A (q1 + 3) (Int32.toNatClampNeg a0)) * (I (16 * b + 2)))) (fun v1 => g_ck a0 32 (g_ck a0 32 (g_ck a0 32 (g_ck a0 32 (g_lt (((((A (q1 + 4) (Int32.toNatClampNeg a0)) * (I (16 * b + 6))) - ((A (q1 + 1) (Int32.toNatClampNeg a0)) * (I (16 * b + 3)))) - ((A (q1 + 2) (Int32.toNatClampNeg a0)) * (I (16 * b + 4)))) - ((A (q1 + 3) (Int32.toNatClampNeg a0)) * (I (16 * b + 5)))) (fun v2 => if v1 = 0 then (if v2 < 0 then (some (0, I, A, L)) else (some (1, I, A, L))) else (if v1 ≤ 0 then (f_X1_isLeftBehind_p131 b q1 v1 v2 I A L) else (if ((I (16 * b + 9)) * v1) ≤ (v2 * (I (16 * b + 10))) then (f_X1_isLeftBehind_p131 b q1 v1 v2 I A L) else (g_lt (va_up I (16 * b + 9) v2) (fun I3 => g_lt (va_up I3 (16 * b + 10) v1) (fun I4 => f_X1_isLeftBehind_p131 b q1 v1 v2 I4 A L))))))))))))))
def f_X1_isLeftBy_p2 (b : Nat) (q1 : Nat)  : Nat → Int32 → Int32 → (Nat → Int32) → (Nat → Nat → Int32) → (Nat → Int64) → Option (Int32 × gS)
  | 0 => fun _ _ _ _ _ => none
  | n + 1 => fun x2 x3 I A L => if (I (16 * q1 + 4)) ≤ x3 then (some (1, I, A, L)) else (if x3 = x2 then (f_X1_isLeftBy_p2 b q1 n x2 (x3 + 1) I A L) else (g_b2 (f_X1_isLeftBehind b q1 x3 I A L) (fun v5 I2 A3 L4 => if v5 = 0 then (some (0, I2, A3, L4)) else (f_X1_isLeftBy_p2 b q1 n x2 (x3 + 1) I2 A3 L4))))
def f_X1_isLeftBy (b : Nat) (q1 : Nat) (a0 : Int32) (I : Nat → Int32) (A : Nat → Nat → Int32) (L : Nat → Int64) : Option (Int32 × gS) :=
  f_X1_isLeftBy_p2 b q1 4096 a0 0 I A L
def f_X4_putCorner_p16 (b : Nat)  : Nat → Int32 → Int32 → Int32 → Int32 → Int32 → Int32 → (Nat → Int32) → (Nat → Nat → Int32) → (Nat → Int64) → Option gS
  | 0 => fun _ _ _ _ _ _ _ _ _ => none
  | n + 1 => fun x1 x2 x3 x4 x5 x6 I A L => if x6 ≤ x1 then (g_ck x1 60 (g_lt (va_up A (b + 1) (upd (A (b + 1)) (Int32.toNatClampNeg x1) x2)) (fun A1 => g_ck x1 60 (g_lt (va_up A1 (b + 2) (upd (A1 (b + 2)) (Int32.toNatClampNeg x1) x3)) (fun A2 => g_ck x1 60 (g_lt (va_up A2 (b + 3) (upd (A2 (b + 3)) (Int32.toNatClampNeg x1) x4)) (fun A3 => g_ck x1 60 (g_lt (va_up A3 (b + 4) (upd (A3 (b + 4)) (Int32.toNatClampNeg x1) x5)) (fun A4 => g_lt (va_up I (16 * b + 7) ((I (16 * b + 7)) + 1)) (fun I5 => some (I5, A4, L))))))))))) else (g_ck (x6 - 1) 60 (g_ck x6 60 (g_lt (va_up A (b + 1) (upd (A (b + 1)) (Int32.toNatClampNeg x6) (A (b + 1) (Int32.toNatClampNeg (x6 - 1))))) (fun A6 => g_ck (x6 - 1) 60 (g_ck x6 60 (g_lt (va_up A6 (b + 2) (upd (A6 (b + 2)) (Int32.toNatClampNeg x6) (A6 (b + 2) (Int32.toNatClampNeg (x6 - 1))))) (fun A7 => g_ck (x6 - 1) 60 (g_ck x6 60 (g_lt (va_up A7 (b + 3) (upd (A7 (b + 3)) (Int32.toNatClampNeg x6) (A7 (b + 3) (Int32.toNatClampNeg (x6 - 1))))) (fun A8 => g_ck (x6 - 1) 60 (g_ck x6 60 (g_lt (va_up A8 (b + 4) (upd (A8 (b + 4)) (Int32.toNatClampNeg x6) (A8 (b + 4) (Int32.toNatClampNeg (x6 - 1))))) (fun A9 => f_X4_putCorner_p16 b n x1 x2 x3 x4 x5 (x6 + (-1)) I A9 L)))))))))))))
def f_X4_putCorner (b : Nat) (a0 : Int32) (a1 : Int32) (a2 : Int32) (a3 : Int32) (a4 : Int32) (I : Nat → Int32) (A : Nat → Nat → Int32) (L : Nat → Int64) : Option gS :=
  if (I (16 * b + 7)) < 60 then (g_lt (I (16 * b + 7)) (fun v1 => f_X4_putCorner_p16 b 4096 a0 a1 a2 a3 a4 v1 I A L)) else (some (I, A, L))
def f_X6_commonDivisor_p13 (I : Nat → Int32) (A : Nat → Nat → Int32) (L : Nat → Int64)  : Nat → Int32 → Int32 → Int32 → Option Int32
  | 0 => fun _ _ _ => none
  | n + 1 => fun x2 x3 x4 => if 64 ≤ x4 then (some x2) else (if x3 = 0 then (some x2) else (g_dv x3 (g_lt (x2 - x2 / x3 * x3) (fun v2 => f_X6_commonDivisor_p13 I A L n x3 v2 (x4 + 1)))))
def f_X6_commonDivisor (I : Nat → Int32) (A : Nat → Nat → Int32) (L : Nat → Int64) (a0 : Int32) (a1 : Int32) : Option Int32 :=
  g_lt (if 0 ≤ a0 then a0 else 0 - a0) (fun v1 => g_lt (if 0 ≤ a1 then a1 else 0 - a1) (fun v2 => f_X6_commonDivisor_p13 I A L 4096 v1 v2 0))
def f_X4_order (b : Nat) (I : Nat → Int32) (A : Nat → Nat → Int32) (L : Nat → Int64) (a0 : Int32) (a1 : Int32) (a2 : Int32) (a3 : Int32) (a4 : Int32) : Option Int32 :=
  g_ck a0 60 (g_ck a0 60 (g_lt (((A (b + 1) (Int32.toNatClampNeg a0)) * a4) - (a1 * (A (b + 4) (Int32.toNatClampNeg a0)))) (fun v1 => g_ck a0 60 (g_ck a0 60 (g_lt (((A (b + 2) (Int32.toNatClampNeg a0)) * a4) - (a2 * (A (b + 4) (Int32.toNatClampNeg a0)))) (fun v2 => g_ck a0 60 (g_ck a0 60 (g_lt (((A (b + 3) (Int32.toNatClampNeg a0)) * a4) - (a3 * (A (b + 4) (Int32.toNatClampNeg a0)))) (fun v3 => if v1 = 0 then (if v2 = 0 then (some v3) else (some v2)) else (some v1))))))))))
def f_X4_placeOf_p12 (b : Nat) (I : Nat → Int32) (A : Nat → Nat → Int32) (L : Nat → Int64)  : Nat → Int32 → Int32 → Int32 → Int32 → Int32 → Int32 → Int32 → Option Int32
  | 0 => fun _ _ _ _ _ _ _ => none
  | n + 1 => fun x1 x2 x3 x4 x5 x6 x7 => if 60 ≤ x7 then (some x5) else (if x6 ≤ x5 then (some x5) else (g_lt ((x5 + x6) / 2) (fun v1 => Option.bind (f_X4_order b I A L v1 x1 x2 x3 x4) (fun v3 => if 0 ≤ v3 then (f_X4_placeOf_p12 b I A L n x1 x2 x3 x4 x5 v1 (x7 + 1)) else (f_X4_placeOf_p12 b I A L n x1 x2 x3 x4 (v1 + 1) x6 (x7 + 1))))))
def f_X4_placeOf (b : Nat) (I : Nat → Int32) (A : Nat → Nat → Int32) (L : Nat → Int64) (a0 : Int32) (a1 : Int32) (a2 : Int32) (a3 : Int32) : Option Int32 :=
  g_lt (I (16 * b + 7)) (fun v1 => f_X4_placeOf_p12 b I A L 4096 a0 a1 a2 a3 0 v1 0)
def f_X4_keepPoint_p166 (b : Nat)  (x3 : Int32) (x4 : Int32) (x5 : Int32) (x6 : Int32) (x8 : Int32) (I : Nat → Int32) (A : Nat → Nat → Int32) (L : Nat → Int64) : Option gS :=
  g_b1 (f_X4_putCorner b x8 x3 x4 x5 x6 I A L) (fun I2 A3 L4 => some (I2, A3, L4))
def f_X4_keepPoint (b : Nat) (a0 : Int32) (a1 : Int32) (I : Nat → Int32) (A : Nat → Nat → Int32) (L : Nat → Int64) : Option gS :=
  g_lt (((I (16 * b + 115)) * a1) + ((I (16 * b + 112)) * a0)) (fun v1 => g_lt (((I (16 * b + 116)) * a1) + ((I (16 * b + 113)) * a0)) (fun v2 => g_lt (((I (16 * b + 117)) * a1) + ((I (16 * b + 114)) * a0)) (fun v3 => g_lt ((I (16 * b + 118)) * a1) (fun v4 => Option.bind (f_X6_commonDivisor I A L v1 v2) (fun v6 => Option.bind (f_X6_commonDivisor I A L v3 v4) (fun v8 => Option.bind (f_X6_commonDivisor I A L v6 v8) (fun v10 => if v4 ≤ 0 then (some (I, A, L)) else (if 0 < v10 then (g_dv v10 (g_dv v10 (g_dv v10 (g_dv v10 (Option.bind (f_X4_placeOf b I A L (v1 / v10) (v2 / v10) (v3 / v10) (v4 / v10)) (fun v16 => if (I (16 * b + 7)) ≤ v16 then (f_X4_keepPoint_p166 b (v1 / v10) (v2 / v10) (v3 / v10) (v4 / v10) v16 I A L) else (Option.bind (f_X4_order b I A L v16 (v1 / v10) (v2 / v10) (v3 / v10) (v4 / v10)) (fun v18 => if v18 = 0 then (some (I, A, L)) else (f_X4_keepPoint_p166 b (v1 / v10) (v2 / v10) (v3 / v10) (v4 / v10) v16 I A L))))))))) else (some (I, A, L))))))))))
def f_X4_cut_p20 (b : Nat) (q1 : Nat) (k7 : Int32 → Int32 → (Nat → Int32) → (Nat → Nat → Int32) → (Nat → Int64) → Option gS) : Nat → Int32 → Int32 → Int32 → (Nat → Int32) → (Nat → Nat → Int32) → (Nat → Int64) → Option gS
  | 0 => fun _ _ _ _ _ _ => none
  | n + 1 => fun x2 x3 x4 I A L => if (I (16 * q1 + 4)) ≤ x4 then (k7 x2 (x3 + 1) I A L) else (if x3 = x2 then (f_X4_cut_p20 b q1 k7 n x2 x3 (x4 + 1) I A L) else (if x4 = x2 then (f_X4_cut_p20 b q1 k7 n x2 x3 (x4 + 1) I A L) else (g_b2 (f_X1_lay (b + 7) q1 x3 x4 I A L) (fun v5 I2 A3 L4 => if v5 = 0 then (f_X4_cut_p20 b q1 k7 n x2 x3 (x4 + 1) I2 A3 L4) else (g_b2 (f_X1_isLeftBy (b + 7) q1 x2 I2 A3 L4) (fun v10 I7 A8 L9 => if v10 = 0 then (f_X4_cut_p20 b q1 k7 n x2 x3 (x4 + 1) I7 A8 L9) else (g_b1 (f_X4_keepPoint b (I7 (16 * b + 119)) (I7 (16 * b + 120)) I7 A8 L9) (fun I12 A13 L14 => g_b1 (f_X4_keepPoint b (I12 (16 * b + 121)) (I12 (16 * b + 122)) I12 A13 L14) (fun I16 A17 L18 => f_X4_cut_p20 b q1 k7 n x2 x3 (x4 + 1) I16 A17 L18)))))))))
def f_X4_cut_p7 (b : Nat) (q1 : Nat)  : Nat → Int32 → Int32 → (Nat → Int32) → (Nat → Nat → Int32) → (Nat → Int64) → Option gS
  | 0 => fun _ _ _ _ _ => none
  | n + 1 => fun x2 x3 I A L => if (I (16 * q1 + 4)) ≤ x3 then (some (I, A, L)) else (f_X4_cut_p20 b q1 (f_X4_cut_p7 b q1 n) 4096 x2 x3 (x3 + 1) I A L)
def f_X4_cut (b : Nat) (q1 : Nat) (a0 : Int32) (I : Nat → Int32) (A : Nat → Nat → Int32) (L : Nat → Int64) : Option gS :=
  g_lt (va_up I (16 * b + 7) 0) (fun I1 => f_X4_cut_p7 b q1 4096 a0 0 I1 A L)
def f_X4_along (b : Nat) (I : Nat → Int32) (A : Nat → Nat → Int32) (L : Nat → Int64) (a0 : Int32) (a1 : Int32) (a2 : Int32) (a3 : Int32) : Option Int32 :=
  g_ck a0 60 (g_ck a0 60 (g_ck a0 60 (some (((a1 * (A (b + 1) (Int32.toNatClampNeg a0))) + (a2 * (A (b + 2) (Int32.toNatClampNeg a0)))) + (a3 * (A (b + 3) (Int32.toNatClampNeg a0)))))))
def f_X4_markCornersOn_p5 (b : Nat) (q1 : Nat)  : Nat → Int32 → Int32 → Int32 → (Nat → Int32) → (Nat → Nat → Int32) → (Nat → Int64) → Option (Int32 × gS)
  | 0 => fun _ _ _ _ _ _ => none
  | n + 1 => fun x2 x3 x4 I A L => if (I (16 * b + 7)) ≤ x4 then (some (x3, I, A, L)) else (g_ck x2 32 (g_ck x2 32 (g_ck x2 32 (Option.bind (f_X4_along b I A L x4 (A (q1 + 1) (Int32.toNatClampNeg x2)) (A (q1 + 2) (Int32.toNatClampNeg x2)) (A (q1 + 3) (Int32.toNatClampNeg x2))) (fun v2 => g_ck x2 32 (g_ck x4 60 (if v2 = ((A (q1 + 4) (Int32.toNatClampNeg x2)) * (A (b + 4) (Int32.toNatClampNeg x4))) then (g_ck x4 60 (g_ck x4 60 (g_lt (va_up A (b + 5) (upd (A (b + 5)) (Int32.toNatClampNeg x4) ((A (b + 5) (Int32.toNatClampNeg x4)) ||| (1 <<< (x2 &&& 31))))) (fun A3 => f_X4_markCornersOn_p5 b q1 n x2 (x3 + 1) (x4 + 1) I A3 L)))) else (f_X4_markCornersOn_p5 b q1 n x2 x3 (x4 + 1) I A L))))))))
def f_X4_markCornersOn (b : Nat) (q1 : Nat) (a0 : Int32) (I : Nat → Int32) (A : Nat → Nat → Int32) (L : Nat → Int64) : Option (Int32 × gS) :=
  f_X4_markCornersOn_p5 b q1 4096 a0 0 0 I A L
def f_X2_areSame (b : Nat) (I : Nat → Int32) (A : Nat → Nat → Int32) (L : Nat → Int64) (a0 : Int32) (a1 : Int32) : Option Int32 :=
  g_ck a0 32 (g_ck a1 32 (g_ck a1 32 (g_ck a0 32 (if ((A (b + 1) (Int32.toNatClampNeg a0)) * (A (b + 4) (Int32.toNatClampNeg a1))) = ((A (b + 1) (Int32.toNatClampNeg a1)) * (A (b + 4) (Int32.toNatClampNeg a0))) then (g_ck a0 32 (g_ck a1 32 (g_ck a1 32 (g_ck a0 32 (if ((A (b + 2) (Int32.toNatClampNeg a0)) * (A (b + 4) (Int32.toNatClampNeg a1))) = ((A (b + 2) (Int32.toNatClampNeg a1)) * (A (b + 4) (Int32.toNatClampNeg a0))) then (g_ck a0 32 (g_ck a1 32 (g_ck a1 32 (g_ck a0 32 (if ((A (b + 3) (Int32.toNatClampNeg a0)) * (A (b + 4) (Int32.toNatClampNeg a1))) = ((A (b + 3) (Int32.toNatClampNeg a1)) * (A (b + 4) (Int32.toNatClampNeg a0))) then (some 1) else (some 0)))))) else (some 0)))))) else (some 0)))))
def f_X2_hasEarlierTwin_p2 (b : Nat) (I : Nat → Int32) (A : Nat → Nat → Int32) (L : Nat → Int64)  : Nat → Int32 → Int32 → Option Int32
  | 0 => fun _ _ => none
  | n + 1 => fun x1 x2 => if x1 ≤ x2 then (some 0) else (Option.bind (f_X2_areSame b I A L x2 x1) (fun v2 => if v2 = 0 then (f_X2_hasEarlierTwin_p2 b I A L n x1 (x2 + 1)) else (some 1)))
def f_X2_hasEarlierTwin (b : Nat) (I : Nat → Int32) (A : Nat → Nat → Int32) (L : Nat → Int64) (a0 : Int32) : Option Int32 :=
  f_X2_hasEarlierTwin_p2 b I A L 4096 a0 0
def f_J7_fill_53178_p5 (q1 : Nat)  : Nat → Int32 → Int32 → Int32 → (Nat → Int32) → (Nat → Nat → Int32) → (Nat → Int64) → Option gS
  | 0 => fun _ _ _ _ _ _ => none
  | n + 1 => fun x1 x2 x3 I A L => if x3 ≤ x2 then (some (I, A, L)) else (g_ck x2 60 (g_lt (va_up A q1 (upd (A q1) (Int32.toNatClampNeg x2) x1)) (fun A1 => f_J7_fill_53178_p5 q1 n x1 (x2 + 1) x3 I A1 L)))
def f_J7_fill_53178 (q1 : Nat) (a0 : Int32) (I : Nat → Int32) (A : Nat → Nat → Int32) (L : Nat → Int64) : Option gS :=
  f_J7_fill_53178_p5 q1 4096 a0 0 60 I A L
def f_X4_look_p15 (b : Nat) (q1 : Nat)  : Nat → Int32 → (Nat → Int32) → (Nat → Nat → Int32) → (Nat → Int64) → Option gS
  | 0 => fun _ _ _ _ => none
  | n + 1 => fun x2 I A L => if (I (16 * q1 + 4)) ≤ x2 then (some (I, A, L)) else (g_b2 (f_X4_markCornersOn b q1 x2 I A L) (fun v5 I2 A3 L4 => g_ck x2 32 (g_lt (va_up A3 (b + 6) (upd (A3 (b + 6)) (Int32.toNatClampNeg x2) v5)) (fun A6 => g_ck x2 32 (if (A6 (b + 6) (Int32.toNatClampNeg x2)) < 3 then (f_X4_look_p15 b q1 n (x2 + 1) I2 A6 L4) else (Option.bind (f_X2_hasEarlierTwin q1 I2 A6 L4 x2) (fun v8 => if v8 = 0 then (g_lt (va_up I2 (16 * b + 8) ((I2 (16 * b + 8)) ||| (1 <<< (x2 &&& 31)))) (fun I9 => f_X4_look_p15 b q1 n (x2 + 1) I9 A6 L4)) else (f_X4_look_p15 b q1 n (x2 + 1) I2 A6 L4))))))))
def f_X4_look (b : Nat) (q1 : Nat)  (I : Nat → Int32) (A : Nat → Nat → Int32) (L : Nat → Int64) : Option gS :=
  g_b1 (f_J7_fill_53178 (b + 5) 0 I A L) (fun I2 A3 L4 => g_lt (va_up I2 (16 * b + 8) 0) (fun I5 => f_X4_look_p15 b q1 4096 0 I5 A3 L4))
def f_X6_crystal   (I : Nat → Int32) (A : Nat → Nat → Int32) (L : Nat → Int64) : Option gS :=
  if (I 7) = 0 then (g_b1 (f_X4_cut 38 1 (-1) I A L) (fun I2 A3 L4 => g_b1 (f_X4_look 38 1 I2 A3 L4) (fun I6 A7 L8 => g_lt (va_up I6 7 1) (fun I9 => some (I9, A7, L8))))) else (some (I, A, L))
def f_X6_putDrawn_p57   (x1 : Int64) (x3 : Int32) (x4 : Int32) (x5 : Int32) (I : Nat → Int32) (A : Nat → Nat → Int32) (L : Nat → Int64) : Option gS :=
  g_b1 (f_X2_put 1 x3 x4 x5 (10 + (Int64.toInt32 ((x1 / 512) - (x1 / 512) / 31 * 31))) I A L) (fun I2 A3 L4 => some (I2, A3, L4))
def f_X6_putDrawn  (a0 : Int64) (I : Nat → Int32) (A : Nat → Nat → Int32) (L : Nat → Int64) : Option gS :=
  g_lt ((Int64.toInt32 ((a0 / 65536) - (a0 / 65536) / 7 * 7)) - 3) (fun v1 => g_lt ((Int64.toInt32 ((a0 / 1024) - (a0 / 1024) / 7 * 7)) - 3) (fun v2 => g_lt ((Int64.toInt32 ((a0 / 32768) - (a0 / 32768) / 7 * 7)) - 3) (fun v3 => if v1 = 0 then (if v2 = 0 then (if v3 = 0 then (f_X6_putDrawn_p57 a0 1 v2 v3 I A L) else (f_X6_putDrawn_p57 a0 v1 v2 v3 I A L)) else (f_X6_putDrawn_p57 a0 v1 v2 v3 I A L)) else (f_X6_putDrawn_p57 a0 v1 v2 v3 I A L))))
def f_X6_draw_p47   : Nat → Int32 → Int64 → Int32 → (Nat → Int32) → (Nat → Nat → Int32) → (Nat → Int64) → Option (Int32 × gS)
  | 0 => fun _ _ _ _ _ _ => none
  | n + 1 => fun x2 x3 x5 I A L => if x2 ≤ x5 then (g_b1 (f_X6_crystal I A L) (fun I2 A3 L4 => some ((I2 615), I2, A3, L4))) else (g_lt (((x3 * 1103515245) + 12345) - ((x3 * 1103515245) + 12345) / 2147483648 * 2147483648) (fun v5 => g_b1 (f_X6_putDrawn v5 I A L) (fun I7 A8 L9 => f_X6_draw_p47 n x2 v5 (x5 + 1) I7 A8 L9)))
def f_X6_draw_p21   (I : Nat → Int32) (A : Nat → Nat → Int32) (L : Nat → Int64) : Option (Int32 × gS) :=
  g_b2 (f_X6_refuseBad (-2) I A L) (fun v5 I2 A3 L4 => some (v5, I2, A3, L4))
def f_X6_draw  (a0 : Int32) (a1 : Int32) (I : Nat → Int32) (A : Nat → Nat → Int32) (L : Nat → Int64) : Option (Int32 × gS) :=
  if a0 < 0 then (f_X6_draw_p21 I A L) else (if 999999 < a0 then (f_X6_draw_p21 I A L) else (if a1 < 1 then (f_X6_draw_p21 I A L) else (if a1 ≤ 26 then (g_b1 (f_X6_leaveState I A L) (fun I2 A3 L4 => g_lt (va_up I2 20 6) (fun I5 => g_lt (Int32.toInt64 a0) (fun v6 => f_X6_draw_p47 4096 a1 v6 0 I5 A3 L4)))) else (f_X6_draw_p21 I A L))))
def f_X4_isShown (b : Nat) (I : Nat → Int32) (A : Nat → Nat → Int32) (L : Nat → Int64) (a0 : Int32) : Option Int32 :=
  if ((((I (16 * b + 8)).toUInt32 >>> (a0.toUInt32 &&& Int32.toUInt32 31)).toInt32) &&& 1) = 1 then (some 1) else (some 0)
def f_X4_edgesOn (b : Nat) (I : Nat → Int32) (A : Nat → Nat → Int32) (L : Nat → Int64) (a0 : Int32) : Option Int32 :=
  Option.bind (f_X4_isShown b I A L a0) (fun v2 => if v2 = 0 then (some 0) else (g_ck a0 32 (some (A (b + 6) (Int32.toNatClampNeg a0)))))
def f_X6_ofPlane  (a0 : Int32) (a1 : Int32) (I : Nat → Int32) (A : Nat → Nat → Int32) (L : Nat → Int64) : Option (Int32 × gS) :=
  if a1 = 0 then (g_ck a0 32 (some ((A 2 (Int32.toNatClampNeg a0)), I, A, L))) else if a1 = 1 then (g_ck a0 32 (some ((A 3 (Int32.toNatClampNeg a0)), I, A, L))) else if a1 = 2 then (g_ck a0 32 (some ((A 4 (Int32.toNatClampNeg a0)), I, A, L))) else if a1 = 3 then (g_ck a0 32 (some ((A 5 (Int32.toNatClampNeg a0)), I, A, L))) else if a1 = 4 then (g_b1 (f_X6_crystal I A L) (fun I7 A8 L9 => Option.bind (f_X4_isShown 38 I7 A8 L9 a0) (fun v11 => if v11 = 0 then (some (0, I7, A8, L9)) else (some (1, I7, A8, L9))))) else if a1 = 5 then (g_b1 (f_X6_crystal I A L) (fun I14 A15 L16 => g_ck a0 32 (some ((A15 44 (Int32.toNatClampNeg a0)), I14, A15, L16)))) else g_b1 (f_X6_crystal I A L) (fun I18 A19 L20 => Option.bind (f_X4_edgesOn 38 I18 A19 L20 a0) (fun v22 => some (v22, I18, A19, L20)))
def f_X6_of_p18   (I : Nat → Int32) (A : Nat → Nat → Int32) (L : Nat → Int64) : Option (Int32 × gS) :=
  g_b2 (f_X6_refuseBad (-100) I A L) (fun v5 I2 A3 L4 => some (v5, I2, A3, L4))
def f_X6_of  (a0 : Int32) (a1 : Int32) (I : Nat → Int32) (A : Nat → Nat → Int32) (L : Nat → Int64) : Option (Int32 × gS) :=
  Option.bind (f_X6_isPlane I A L a0) (fun v2 => if v2 = 0 then (f_X6_of_p18 I A L) else (if a1 < 0 then (f_X6_of_p18 I A L) else (if a1 ≤ 6 then (g_b2 (f_X6_ofPlane a0 a1 I A L) (fun v7 I4 A5 L6 => some (v7, I4, A5, L6))) else (f_X6_of_p18 I A L))))
def f_X6_member_p23   (I : Nat → Int32) (A : Nat → Nat → Int32) (L : Nat → Int64) : Option (Int32 × gS) :=
  g_b2 (f_X6_refuseBad (-10) I A L) (fun v5 I2 A3 L4 => some (v5, I2, A3, L4))
def f_X6_member  (a0 : Int32) (a1 : Int32) (a2 : Int32) (a3 : Int32) (a4 : Int32) (I : Nat → Int32) (A : Nat → Nat → Int32) (L : Nat → Int64) : Option (Int32 × gS) :=
  Option.bind (f_X6_isTurnSet I A L a0) (fun v2 => if v2 = 0 then (f_X6_member_p23 I A L) else (Option.bind (f_X6_isSign I A L a1 a2 a3) (fun v4 => if v4 = 0 then (f_X6_member_p23 I A L) else (if (-1) ≤ a4 then (g_b1 (f_X0_gather a0 a1 a2 a3 I A L) (fun I6 A7 L8 => if a4 = (-1) then (some ((I6 866), I6, A7, L8)) else (if (I6 866) ≤ a4 then (some ((-5), I6, A7, L8)) else (g_ck a4 48 (some ((A7 56 (Int32.toNatClampNeg a4)), I6, A7, L8)))))) else (f_X6_member_p23 I A L)))))
def f_J6_bitCount_0f7a4 (I : Nat → Int32) (A : Nat → Nat → Int32) (L : Nat → Int64) (a0 : Int32) : Option Int32 :=
  g_lt (a0 - (((a0.toUInt32 >>> ((1 : Int32).toUInt32 &&& Int32.toUInt32 31)).toInt32) &&& 1431655765)) (fun v1 => g_lt ((v1 &&& 858993459) + (((v1.toUInt32 >>> ((2 : Int32).toUInt32 &&& Int32.toUInt32 31)).toInt32) &&& 858993459)) (fun v2 => g_lt ((v2 + ((v2.toUInt32 >>> ((4 : Int32).toUInt32 &&& Int32.toUInt32 31)).toInt32)) &&& 252645135) (fun v3 => g_lt (v3 + ((v3.toUInt32 >>> ((8 : Int32).toUInt32 &&& Int32.toUInt32 31)).toInt32)) (fun v4 => g_lt (v4 + ((v4.toUInt32 >>> ((16 : Int32).toUInt32 &&& Int32.toUInt32 31)).toInt32)) (fun v5 => some (v5 &&& 63))))))
def f_X4_showing (b : Nat) (I : Nat → Int32) (A : Nat → Nat → Int32) (L : Nat → Int64) : Option Int32 :=
  Option.bind (f_J6_bitCount_0f7a4 I A L (I (16 * b + 8))) (fun v2 => some v2)
def f_X4_edges (b : Nat) (I : Nat → Int32) (A : Nat → Nat → Int32) (L : Nat → Int64) : Option Int32 :=
  Option.bind (f_X4_showing b I A L) (fun v2 => some (((I (16 * b + 7)) + v2) - 2))
def f_X4_mostCornersOnPlane_p4 (b : Nat) (I : Nat → Int32) (A : Nat → Nat → Int32) (L : Nat → Int64)  : Nat → Int32 → Int32 → Int32 → Option Int32
  | 0 => fun _ _ _ => none
  | n + 1 => fun x1 x2 x3 => if x1 ≤ x3 then (some x2) else (Option.bind (f_X4_isShown b I A L x3) (fun v2 => if v2 = 0 then (f_X4_mostCornersOnPlane_p4 b I A L n x1 x2 (x3 + 1)) else (g_ck x3 32 (g_lt (if x2 < (A (b + 6) (Int32.toNatClampNeg x3)) then (A (b + 6) (Int32.toNatClampNeg x3)) else x2) (fun v3 => f_X4_mostCornersOnPlane_p4 b I A L n x1 v3 (x3 + 1))))))
def f_X4_mostCornersOnPlane (b : Nat) (I : Nat → Int32) (A : Nat → Nat → Int32) (L : Nat → Int64) (a0 : Int32) : Option Int32 :=
  f_X4_mostCornersOnPlane_p4 b I A L 4096 a0 0 0
def f_X4_mostPlanesOnCorner_p4 (b : Nat) (I : Nat → Int32) (A : Nat → Nat → Int32) (L : Nat → Int64)  : Nat → Int32 → Int32 → Option Int32
  | 0 => fun _ _ => none
  | n + 1 => fun x1 x2 => if (I (16 * b + 7)) ≤ x2 then (some x1) else (g_ck x2 60 (Option.bind (f_J6_bitCount_0f7a4 I A L ((A (b + 5) (Int32.toNatClampNeg x2)) &&& (I (16 * b + 8)))) (fun v2 => g_lt (if x1 < v2 then v2 else x1) (fun v3 => f_X4_mostPlanesOnCorner_p4 b I A L n v3 (x2 + 1)))))
def f_X4_mostPlanesOnCorner (b : Nat) (I : Nat → Int32) (A : Nat → Nat → Int32) (L : Nat → Int64) : Option Int32 :=
  f_X4_mostPlanesOnCorner_p4 b I A L 4096 0 0
def f_X6_all  (a0 : Int32) (I : Nat → Int32) (A : Nat → Nat → Int32) (L : Nat → Int64) : Option (Int32 × gS) :=
  if a0 = 0 then (some ((I 20), I, A, L)) else if a0 = 1 then (g_b1 (f_X6_crystal I A L) (fun I4 A5 L6 => Option.bind (f_X4_showing 38 I4 A5 L6) (fun v8 => some (v8, I4, A5, L6)))) else if a0 = 2 then (g_b1 (f_X6_crystal I A L) (fun I11 A12 L13 => Option.bind (f_X4_showing 38 I11 A12 L13) (fun v15 => some (((I 20) - v15), I11, A12, L13)))) else if a0 = 3 then (g_b1 (f_X6_crystal I A L) (fun I18 A19 L20 => some ((I18 615), I18, A19, L20))) else if a0 = 4 then (g_b1 (f_X6_crystal I A L) (fun I23 A24 L25 => Option.bind (f_X4_edges 38 I23 A24 L25) (fun v27 => some (v27, I23, A24, L25)))) else if a0 = 5 then (g_b1 (f_X6_crystal I A L) (fun I30 A31 L32 => Option.bind (f_X4_mostCornersOnPlane 38 I30 A31 L32 (I30 20)) (fun v34 => some (v34, I30, A31, L32)))) else if a0 = 6 then (g_b1 (f_X6_crystal I A L) (fun I37 A38 L39 => Option.bind (f_X4_mostPlanesOnCorner 38 I37 A38 L39) (fun v41 => some (v41, I37, A38, L39)))) else g_b2 (f_X6_refuseBad (-2) I A L) (fun v46 I43 A44 L45 => some (v46, I43, A44, L45))
def f_X4_coordinate (b : Nat) (I : Nat → Int32) (A : Nat → Nat → Int32) (L : Nat → Int64) (a0 : Int32) (a1 : Int32) : Option Int32 :=
  if a1 = 0 then (g_ck a0 60 (some (A (b + 1) (Int32.toNatClampNeg a0)))) else (if a1 = 1 then (g_ck a0 60 (some (A (b + 2) (Int32.toNatClampNeg a0)))) else (g_ck a0 60 (some (A (b + 3) (Int32.toNatClampNeg a0)))))
def f_X6_setFraction  (a0 : Int32) (a1 : Int32) (I : Nat → Int32) (A : Nat → Nat → Int32) (L : Nat → Int64) : Option gS :=
  Option.bind (f_X6_commonDivisor I A L a0 a1) (fun v2 => if v2 ≤ 0 then (some (I, A, L)) else (g_dv v2 (g_lt (va_up I 11 (a0 / v2)) (fun I4 => g_dv v2 (g_lt (va_up I4 12 (a1 / v2)) (fun I6 => some (I6, A, L)))))))
def f_X6_refuseNo   (I : Nat → Int32) (A : Nat → Nat → Int32) (L : Nat → Int64) : Option (Int32 × gS) :=
  g_lt (va_up I 14 ((I 14) + 1)) (fun I1 => some ((-3), I1, A, L))
def f_X6_corner_p13   (I : Nat → Int32) (A : Nat → Nat → Int32) (L : Nat → Int64) : Option (Int32 × gS) :=
  g_b2 (f_X6_refuseBad (-2) I A L) (fun v5 I2 A3 L4 => some (v5, I2, A3, L4))
def f_X6_corner  (a0 : Int32) (a1 : Int32) (I : Nat → Int32) (A : Nat → Nat → Int32) (L : Nat → Int64) : Option (Int32 × gS) :=
  if a0 < 0 then (f_X6_corner_p13 I A L) else (if a1 < 0 then (f_X6_corner_p13 I A L) else (if a1 ≤ 2 then (g_b1 (f_X6_crystal I A L) (fun I2 A3 L4 => if a0 < (I2 615) then (Option.bind (f_X4_coordinate 38 I2 A3 L4 a0 a1) (fun v6 => g_ck a0 60 (g_b1 (f_X6_setFraction v6 (A3 42 (Int32.toNatClampNeg a0)) I2 A3 L4) (fun I8 A9 L10 => some (1, I8, A9, L10))))) else (g_b2 (f_X6_refuseNo I2 A3 L4) (fun v15 I12 A13 L14 => some (v15, I12, A13, L14))))) else (f_X6_corner_p13 I A L)))
def f_X6_meets_p13   (I : Nat → Int32) (A : Nat → Nat → Int32) (L : Nat → Int64) : Option (Int32 × gS) :=
  g_b2 (f_X6_refuseBad (-2) I A L) (fun v5 I2 A3 L4 => some (v5, I2, A3, L4))
def f_X6_meets  (a0 : Int32) (a1 : Int32) (I : Nat → Int32) (A : Nat → Nat → Int32) (L : Nat → Int64) : Option (Int32 × gS) :=
  if a0 < 0 then (f_X6_meets_p13 I A L) else (if a1 < 0 then (f_X6_meets_p13 I A L) else (if a1 ≤ 1 then (g_b1 (f_X6_crystal I A L) (fun I2 A3 L4 => if a0 < (I2 615) then (if a1 = 0 then (g_ck a0 60 (Option.bind (f_J6_bitCount_0f7a4 I2 A3 L4 (A3 43 (Int32.toNatClampNeg a0))) (fun v6 => some (v6, I2, A3, L4)))) else (g_ck a0 60 (some ((A3 43 (Int32.toNatClampNeg a0)), I2, A3, L4)))) else (some ((-1), I2, A3, L4)))) else (f_X6_meets_p13 I A L)))
def f_X6_part_p9   (I : Nat → Int32) (A : Nat → Nat → Int32) (L : Nat → Int64) : Option (Int64 × gS) :=
  g_b2 (f_X6_refuseBad (-2) I A L) (fun v5 I2 A3 L4 => some ((-1000000), I2, A3, L4))
def f_X6_part  (a0 : Int32) (I : Nat → Int32) (A : Nat → Nat → Int32) (L : Nat → Int64) : Option (Int64 × gS) :=
  if a0 < 0 then (f_X6_part_p9 I A L) else (if a0 ≤ 1 then (if a0 = 0 then (some ((Int32.toInt64 (I 11)), I, A, L)) else (some ((Int32.toInt64 (I 12)), I, A, L))) else (f_X6_part_p9 I A L))
def f_X4_cornersOnBoth_p14 (b : Nat) (I : Nat → Int32) (A : Nat → Nat → Int32) (L : Nat → Int64)  : Nat → Int32 → Int32 → Int32 → Option Int32
  | 0 => fun _ _ _ => none
  | n + 1 => fun x3 x4 x5 => if (I (16 * b + 7)) ≤ x5 then (some x4) else (g_ck x5 60 (if ((A (b + 5) (Int32.toNatClampNeg x5)) &&& x3) = x3 then (f_X4_cornersOnBoth_p14 b I A L n x3 (x4 + 1) (x5 + 1)) else (f_X4_cornersOnBoth_p14 b I A L n x3 x4 (x5 + 1))))
def f_X4_cornersOnBoth (b : Nat) (I : Nat → Int32) (A : Nat → Nat → Int32) (L : Nat → Int64) (a0 : Int32) (a1 : Int32) : Option Int32 :=
  g_lt ((1 <<< (a0 &&& 31)) ||| (1 <<< (a1 &&& 31))) (fun v1 => f_X4_cornersOnBoth_p14 b I A L 4096 v1 0 0)
def f_X2_wayBetween_p145 (b : Nat) (I : Nat → Int32) (A : Nat → Nat → Int32) (L : Nat → Int64)  (x3 : Int32) (x4 : Int32) (x5 : Int32) (x6 : Int32) (s0 : Int32) : Option Int32 :=
  if x3 = 0 then (g_dv s0 (some (x4 / s0))) else (if x3 = 1 then (g_dv s0 (some (x5 / s0))) else (g_dv s0 (some (x6 / s0))))
def f_X2_wayBetween_p130 (b : Nat) (I : Nat → Int32) (A : Nat → Nat → Int32) (L : Nat → Int64)  (x3 : Int32) (x4 : Int32) (x5 : Int32) (x6 : Int32) (x7 : Int32) (s0 : Int32) : Option Int32 :=
  if s0 ≤ 0 then (f_X2_wayBetween_p145 b I A L x3 x4 x5 x6 (-x7)) else (f_X2_wayBetween_p145 b I A L x3 x4 x5 x6 x7)
def f_X2_wayBetween (b : Nat) (I : Nat → Int32) (A : Nat → Nat → Int32) (L : Nat → Int64) (a0 : Int32) (a1 : Int32) (a2 : Int32) : Option Int32 :=
  g_ck a0 32 (g_ck a1 32 (g_ck a0 32 (g_ck a1 32 (g_lt (((A (b + 2) (Int32.toNatClampNeg a0)) * (A (b + 3) (Int32.toNatClampNeg a1))) - ((A (b + 3) (Int32.toNatClampNeg a0)) * (A (b + 2) (Int32.toNatClampNeg a1)))) (fun v1 => g_ck a0 32 (g_ck a1 32 (g_ck a0 32 (g_ck a1 32 (g_lt (((A (b + 3) (Int32.toNatClampNeg a0)) * (A (b + 1) (Int32.toNatClampNeg a1))) - ((A (b + 1) (Int32.toNatClampNeg a0)) * (A (b + 3) (Int32.toNatClampNeg a1)))) (fun v2 => g_ck a0 32 (g_ck a1 32 (g_ck a0 32 (g_ck a1 32 (g_lt (((A (b + 1) (Int32.toNatClampNeg a0)) * (A (b + 2) (Int32.toNatClampNeg a1))) - ((A (b + 2) (Int32.toNatClampNeg a0)) * (A (b + 1) (Int32.toNatClampNeg a1)))) (fun v3 => Option.bind (f_X6_commonDivisor I A L v1 v2) (fun v5 => Option.bind (f_X6_commonDivisor I A L v5 v3) (fun v7 => if 0 < v7 then (if v1 = 0 then (if v2 = 0 then (f_X2_wayBetween_p130 b I A L a2 v1 v2 v3 v7 v3) else (f_X2_wayBetween_p130 b I A L a2 v1 v2 v3 v7 v2)) else (f_X2_wayBetween_p130 b I A L a2 v1 v2 v3 v7 v1)) else (some 0))))))))))))))))))
def f_X6_edge_p30   (I : Nat → Int32) (A : Nat → Nat → Int32) (L : Nat → Int64) : Option (Int32 × gS) :=
  g_b2 (f_X6_refuseBad (-100) I A L) (fun v5 I2 A3 L4 => some (v5, I2, A3, L4))
def f_X6_edge  (a0 : Int32) (a1 : Int32) (a2 : Int32) (I : Nat → Int32) (A : Nat → Nat → Int32) (L : Nat → Int64) : Option (Int32 × gS) :=
  Option.bind (f_X6_isPlane I A L a0) (fun v2 => if v2 = 0 then (f_X6_edge_p30 I A L) else (Option.bind (f_X6_isPlane I A L a1) (fun v4 => if v4 = 0 then (f_X6_edge_p30 I A L) else (if a0 = a1 then (f_X6_edge_p30 I A L) else (if a2 < 0 then (f_X6_edge_p30 I A L) else (if a2 ≤ 4 then (g_b1 (f_X6_crystal I A L) (fun I6 A7 L8 => Option.bind (f_X4_cornersOnBoth 38 I6 A7 L8 a0 a1) (fun v10 => if a2 = 4 then (some (v10, I6, A7, L8)) else (if v10 < 2 then (some (0, I6, A7, L8)) else (Option.bind (f_X4_isShown 38 I6 A7 L8 a0) (fun v12 => if v12 = 0 then (some (0, I6, A7, L8)) else (Option.bind (f_X4_isShown 38 I6 A7 L8 a1) (fun v14 => if v14 = 0 then (some (0, I6, A7, L8)) else (if a2 = 0 then (some (1, I6, A7, L8)) else (Option.bind (f_X2_wayBetween 1 I6 A7 L8 a0 a1 (a2 - 1)) (fun v16 => some (v16, I6, A7, L8)))))))))))) else (f_X6_edge_p30 I A L)))))))
def f_X4_farthest_p6 (b : Nat) (I : Nat → Int32) (A : Nat → Nat → Int32) (L : Nat → Int64)  : Nat → Int32 → Int32 → Int32 → Int32 → Int32 → Option Int32
  | 0 => fun _ _ _ _ _ => none
  | n + 1 => fun x1 x2 x3 x4 x5 => if (I (16 * b + 7)) ≤ x5 then (some x4) else (Option.bind (f_X4_along b I A L x5 x1 x2 x3) (fun v2 => g_ck x4 60 (Option.bind (f_X4_along b I A L x4 x1 x2 x3) (fun v4 => g_ck x5 60 (if (v2 * (A (b + 4) (Int32.toNatClampNeg x4))) ≤ (v4 * (A (b + 4) (Int32.toNatClampNeg x5))) then (f_X4_farthest_p6 b I A L n x1 x2 x3 x4 (x5 + 1)) else (f_X4_farthest_p6 b I A L n x1 x2 x3 x5 (x5 + 1)))))))
def f_X4_farthest (b : Nat) (I : Nat → Int32) (A : Nat → Nat → Int32) (L : Nat → Int64) (a0 : Int32) (a1 : Int32) (a2 : Int32) : Option Int32 :=
  f_X4_farthest_p6 b I A L 4096 a0 a1 a2 0 1
def f_X4_cornersAt_p17 (b : Nat) (I : Nat → Int32) (A : Nat → Nat → Int32) (L : Nat → Int64)  : Nat → Int32 → Int32 → Int32 → Int32 → Int32 → Int32 → Int32 → Option Int32
  | 0 => fun _ _ _ _ _ _ _ => none
  | n + 1 => fun x1 x2 x3 x4 x5 x6 x7 => if (I (16 * b + 7)) ≤ x7 then (some x6) else (Option.bind (f_X4_along b I A L x7 x1 x2 x3) (fun v2 => g_ck x4 60 (g_ck x7 60 (if (v2 * (A (b + 4) (Int32.toNatClampNeg x4))) = (x5 * (A (b + 4) (Int32.toNatClampNeg x7))) then (f_X4_cornersAt_p17 b I A L n x1 x2 x3 x4 x5 (x6 + 1) (x7 + 1)) else (f_X4_cornersAt_p17 b I A L n x1 x2 x3 x4 x5 x6 (x7 + 1))))))
def f_X4_cornersAt (b : Nat) (I : Nat → Int32) (A : Nat → Nat → Int32) (L : Nat → Int64) (a0 : Int32) (a1 : Int32) (a2 : Int32) (a3 : Int32) : Option Int32 :=
  Option.bind (f_X4_along b I A L a3 a0 a1 a2) (fun v2 => f_X4_cornersAt_p17 b I A L 4096 a0 a1 a2 a3 v2 0 0)
def f_X6_reach  (a0 : Int32) (a1 : Int32) (a2 : Int32) (I : Nat → Int32) (A : Nat → Nat → Int32) (L : Nat → Int64) : Option (Int32 × gS) :=
  Option.bind (f_X6_isSign I A L a0 a1 a2) (fun v2 => if v2 = 0 then (g_b2 (f_X6_refuseBad (-2) I A L) (fun v21 I18 A19 L20 => some (v21, I18, A19, L20))) else (g_b1 (f_X6_crystal I A L) (fun I4 A5 L6 => Option.bind (f_X4_farthest 38 I4 A5 L6 a0 a1 a2) (fun v8 => Option.bind (f_X4_along 38 I4 A5 L6 v8 a0 a1 a2) (fun v10 => g_ck v8 60 (g_b1 (f_X6_setFraction v10 (A5 42 (Int32.toNatClampNeg v8)) I4 A5 L6) (fun I12 A13 L14 => Option.bind (f_X4_cornersAt 38 I12 A13 L14 a0 a1 a2 v8) (fun v16 => some (v16, I12, A13, L14)))))))))
def f_X4_isKeptBy_p2 (b : Nat) (I : Nat → Int32) (A : Nat → Nat → Int32) (L : Nat → Int64)  : Nat → Int32 → Int32 → Option Int32
  | 0 => fun _ _ => none
  | n + 1 => fun x1 x2 => if (I (16 * b + 7)) ≤ x2 then (some 1) else (g_ck x2 60 (g_ck x2 60 (g_ck x2 60 (Option.bind (f_X6_turned I A L x1 0 (A (b + 1) (Int32.toNatClampNeg x2)) (A (b + 2) (Int32.toNatClampNeg x2)) (A (b + 3) (Int32.toNatClampNeg x2))) (fun v2 => g_ck x2 60 (g_ck x2 60 (g_ck x2 60 (Option.bind (f_X6_turned I A L x1 1 (A (b + 1) (Int32.toNatClampNeg x2)) (A (b + 2) (Int32.toNatClampNeg x2)) (A (b + 3) (Int32.toNatClampNeg x2))) (fun v4 => g_ck x2 60 (g_ck x2 60 (g_ck x2 60 (Option.bind (f_X6_turned I A L x1 2 (A (b + 1) (Int32.toNatClampNeg x2)) (A (b + 2) (Int32.toNatClampNeg x2)) (A (b + 3) (Int32.toNatClampNeg x2))) (fun v6 => g_ck x2 60 (Option.bind (f_X4_placeOf b I A L v2 v4 v6 (A (b + 4) (Int32.toNatClampNeg x2))) (fun v8 => if (I (16 * b + 7)) ≤ v8 then (some 0) else (g_ck x2 60 (Option.bind (f_X4_order b I A L v8 v2 v4 v6 (A (b + 4) (Int32.toNatClampNeg x2))) (fun v10 => if v10 = 0 then (f_X4_isKeptBy_p2 b I A L n x1 (x2 + 1)) else (some 0)))))))))))))))))))
def f_X4_isKeptBy (b : Nat) (I : Nat → Int32) (A : Nat → Nat → Int32) (L : Nat → Int64) (a0 : Int32) : Option Int32 :=
  f_X4_isKeptBy_p2 b I A L 4096 a0 0
def f_X6_stays_p10   (I : Nat → Int32) (A : Nat → Nat → Int32) (L : Nat → Int64) : Option (Int32 × gS) :=
  g_b2 (f_X6_refuseBad (-2) I A L) (fun v5 I2 A3 L4 => some (v5, I2, A3, L4))
def f_X6_stays  (a0 : Int32) (I : Nat → Int32) (A : Nat → Nat → Int32) (L : Nat → Int64) : Option (Int32 × gS) :=
  if a0 < 0 then (f_X6_stays_p10 I A L) else (if a0 < 6 then (g_b1 (f_X6_crystal I A L) (fun I2 A3 L4 => Option.bind (f_X4_isKeptBy 38 I2 A3 L4 a0) (fun v6 => if v6 = 0 then (some (0, I2, A3, L4)) else (some (1, I2, A3, L4))))) else (f_X6_stays_p10 I A L))
def f_X6_symmetry_p9   : Nat → Int32 → Int32 → (Nat → Int32) → (Nat → Nat → Int32) → (Nat → Int64) → Option (Int32 × gS)
  | 0 => fun _ _ _ _ _ => none
  | n + 1 => fun x2 x3 I A L => if 6 ≤ x3 then (some (x2, I, A, L)) else (Option.bind (f_X4_isKeptBy 38 I A L x3) (fun v2 => if v2 = 0 then (f_X6_symmetry_p9 n x2 (x3 + 1) I A L) else (g_lt (x2 ||| (1 <<< (x3 &&& 31))) (fun v3 => f_X6_symmetry_p9 n v3 (x3 + 1) I A L))))
def f_X6_symmetry   (I : Nat → Int32) (A : Nat → Nat → Int32) (L : Nat → Int64) : Option (Int32 × gS) :=
  g_b1 (f_X6_crystal I A L) (fun I2 A3 L4 => f_X6_symmetry_p9 4096 0 0 I2 A3 L4)
def f_X6_offsWithin (I : Nat → Int32) (A : Nat → Nat → Int32) (L : Nat → Int64) (a0 : Int32) (a1 : Int32) : Option Int32 :=
  if a1 ≤ 0 then (some 0) else (g_dv a1 (some (if ((a0 - 1) / a1) < 60 then ((a0 - 1) / a1) else 60)))
def f_X6_leastBeyond_p14 (I : Nat → Int32) (A : Nat → Nat → Int32) (L : Nat → Int64)  (s0 : Int32) : Option Int32 :=
  if 60 < s0 then (some (-1)) else (some s0)
def f_X6_leastBeyond (I : Nat → Int32) (A : Nat → Nat → Int32) (L : Nat → Int64) (a0 : Int32) (a1 : Int32) : Option Int32 :=
  if a1 ≤ 0 then (f_X6_leastBeyond_p14 I A L 61) else (g_dv a1 (f_X6_leastBeyond_p14 I A L ((a0 / a1) + 1)))
def f_X6_hides_p20   (I : Nat → Int32) (A : Nat → Nat → Int32) (L : Nat → Int64) : Option (Int32 × gS) :=
  g_b2 (f_X6_refuseBad (-2) I A L) (fun v5 I2 A3 L4 => some (v5, I2, A3, L4))
def f_X6_hides  (a0 : Int32) (a1 : Int32) (a2 : Int32) (a3 : Int32) (I : Nat → Int32) (A : Nat → Nat → Int32) (L : Nat → Int64) : Option (Int32 × gS) :=
  Option.bind (f_X6_isSign I A L a0 a1 a2) (fun v2 => if v2 = 0 then (f_X6_hides_p20 I A L) else (if a3 < 0 then (f_X6_hides_p20 I A L) else (if a3 ≤ 1 then (if (I 20) < 32 then (g_b1 (f_X6_crystal I A L) (fun I4 A5 L6 => Option.bind (f_X4_farthest 38 I4 A5 L6 a0 a1 a2) (fun v8 => Option.bind (f_X4_along 38 I4 A5 L6 v8 a0 a1 a2) (fun v10 => if a3 = 0 then (g_ck v8 60 (Option.bind (f_X6_leastBeyond I4 A5 L6 v10 (A5 42 (Int32.toNatClampNeg v8))) (fun v14 => some (v14, I4, A5, L6)))) else (g_ck v8 60 (Option.bind (f_X6_offsWithin I4 A5 L6 v10 (A5 42 (Int32.toNatClampNeg v8))) (fun v12 => some (v12, I4, A5, L6)))))))) else (g_b2 (f_X6_refuseFull I A L) (fun v19 I16 A17 L18 => some (v19, I16, A17, L18)))) else (f_X6_hides_p20 I A L))))
def f_X6_cornersWithout (q1 : Nat) (a0 : Int32) (I : Nat → Int32) (A : Nat → Nat → Int32) (L : Nat → Int64) : Option (Int32 × gS) :=
  Option.bind (f_X4_isShown q1 I A L a0) (fun v2 => if v2 = 0 then (some ((I (16 * q1 + 7)), I, A, L)) else (g_b1 (f_X4_cut 46 1 a0 I A L) (fun I4 A5 L6 => some ((I4 743), I4, A5, L6))))
def f_X6_findSpare_p18   : Nat → Int32 → (Nat → Int32) → (Nat → Nat → Int32) → (Nat → Int64) → Option gS
  | 0 => fun _ _ _ _ => none
  | n + 1 => fun x2 I A L => if (I 20) ≤ x2 then (g_lt (va_up I 8 1) (fun I1 => some (I1, A, L))) else (g_b2 (f_X6_cornersWithout 38 x2 I A L) (fun v6 I3 A4 L5 => if v6 ≤ (I3 10) then (f_X6_findSpare_p18 n (x2 + 1) I3 A4 L5) else (g_lt (va_up I3 10 v6) (fun I7 => g_lt (va_up I7 9 x2) (fun I8 => f_X6_findSpare_p18 n (x2 + 1) I8 A4 L5)))))
def f_X6_findSpare   (I : Nat → Int32) (A : Nat → Nat → Int32) (L : Nat → Int64) : Option gS :=
  g_b1 (f_X6_crystal I A L) (fun I2 A3 L4 => g_lt (va_up I2 9 (-1)) (fun I5 => g_lt (va_up I5 10 (-1)) (fun I6 => f_X6_findSpare_p18 4096 6 I6 A3 L4)))
def f_X6_spare_p44   (x1 : Int32) (I : Nat → Int32) (A : Nat → Nat → Int32) (L : Nat → Int64) : Option (Int32 × gS) :=
  if x1 = 0 then (some ((I 9), I, A, L)) else (some ((I 10), I, A, L))
def f_X6_spare_p9   (I : Nat → Int32) (A : Nat → Nat → Int32) (L : Nat → Int64) : Option (Int32 × gS) :=
  g_b2 (f_X6_refuseBad (-2) I A L) (fun v5 I2 A3 L4 => some (v5, I2, A3, L4))
def f_X6_spare  (a0 : Int32) (I : Nat → Int32) (A : Nat → Nat → Int32) (L : Nat → Int64) : Option (Int32 × gS) :=
  if a0 < 0 then (f_X6_spare_p9 I A L) else (if a0 ≤ 1 then (if 6 < (I 20) then (if (I 8) = 0 then (g_b1 (f_X6_findSpare I A L) (fun I2 A3 L4 => f_X6_spare_p44 a0 I2 A3 L4)) else (f_X6_spare_p44 a0 I A L)) else (g_b2 (f_X6_refuseNo I A L) (fun v9 I6 A7 L8 => some (v9, I6, A7, L8)))) else (f_X6_spare_p9 I A L))
def f_X6_type_p10   (I : Nat → Int32) (A : Nat → Nat → Int32) (L : Nat → Int64) : Option (Int32 × gS) :=
  g_b2 (f_X6_refuseBad (-2) I A L) (fun v5 I2 A3 L4 => some (v5, I2, A3, L4))
def f_X6_type  (a0 : Int32) (I : Nat → Int32) (A : Nat → Nat → Int32) (L : Nat → Int64) : Option (Int32 × gS) :=
  if a0 < 0 then (f_X6_type_p10 I A L) else (if a0 ≤ 127 then (if (I 913) < 120 then (g_ck (I 913) 120 (g_lt (va_up A 58 (upd (A 58) (Int32.toNatClampNeg (I 913)) (vp_nar .byte (Int8.toInt32 (Int32.toInt8 a0))))) (fun A1 => g_lt (va_up I 913 ((I 913) + 1)) (fun I2 => some ((I2 913), I2, A1, L))))) else (g_b2 (f_X6_refuseFull I A L) (fun v7 I4 A5 L6 => some (v7, I4, A5, L6)))) else (f_X6_type_p10 I A L))
def f_X6_clear   (I : Nat → Int32) (A : Nat → Nat → Int32) (L : Nat → Int64) : Option (Int32 × gS) :=
  g_lt (va_up I 913 0) (fun I1 => some ((I 913), I1, A, L))
def f_X3_look_p38   (I : Nat → Int32) (A : Nat → Nat → Int32) (L : Nat → Int64) : Option (Int32 × gS) :=
  if (I 913) ≤ (I 914) then (some ((-1), I, A, L)) else (g_ck (I 914) 120 (some ((A 58 (Int32.toNatClampNeg (I 914))), I, A, L)))
def f_X3_look_p0   : Nat → (Nat → Int32) → (Nat → Nat → Int32) → (Nat → Int64) → Option (Int32 × gS)
  | 0 => fun _ _ _ => none
  | n + 1 => fun I A L => if (I 913) ≤ (I 914) then (f_X3_look_p38 I A L) else (g_ck (I 914) 120 (if (A 58 (Int32.toNatClampNeg (I 914))) = 32 then (g_lt (va_up I 914 ((I 914) + 1)) (fun I1 => f_X3_look_p0 n  I1 A L)) else (f_X3_look_p38 I A L)))
def f_X3_look   (I : Nat → Int32) (A : Nat → Nat → Int32) (L : Nat → Int64) : Option (Int32 × gS) :=
  f_X3_look_p0 4096 I A L
def f_X3_readFigure_p36   (x1 : Int32) (x2 : Int32) (I : Nat → Int32) (A : Nat → Nat → Int32) (L : Nat → Int64) : Option (Int32 × gS) :=
  if x1 < 48 then (some (0, I, A, L)) else (if x1 ≤ 51 then (if x2 = 0 then (g_lt (va_up I 920 (x1 - 48)) (fun I1 => g_lt (va_up I1 914 ((I1 914) + 1)) (fun I2 => some (1, I2, A, L)))) else (g_lt (va_up I 920 (48 - x1)) (fun I3 => g_lt (va_up I3 914 ((I3 914) + 1)) (fun I4 => some (1, I4, A, L))))) else (some (0, I, A, L)))
def f_X3_readFigure_p16   (x1 : Int32) (s0 : Int32) (I : Nat → Int32) (A : Nat → Nat → Int32) (L : Nat → Int64) : Option (Int32 × gS) :=
  if s0 = 0 then (f_X3_readFigure_p36 x1 s0 I A L) else (g_lt (va_up I 914 ((I 914) + 1)) (fun I1 => g_b2 (f_X3_look I1 A L) (fun v6 I3 A4 L5 => f_X3_readFigure_p36 v6 s0 I3 A4 L5)))
def f_X3_readFigure   (I : Nat → Int32) (A : Nat → Nat → Int32) (L : Nat → Int64) : Option (Int32 × gS) :=
  g_b2 (f_X3_look I A L) (fun v5 I2 A3 L4 => if v5 = 45 then (f_X3_readFigure_p16 v5 1 I2 A3 L4) else (f_X3_readFigure_p16 v5 0 I2 A3 L4))
def f_X3_readSign   (I : Nat → Int32) (A : Nat → Nat → Int32) (L : Nat → Int64) : Option (Int32 × gS) :=
  g_b2 (f_X3_readFigure I A L) (fun v5 I2 A3 L4 => if v5 = 0 then (some (0, I2, A3, L4)) else (g_lt (va_up I2 916 (I2 920)) (fun I6 => g_b2 (f_X3_readFigure I6 A3 L4) (fun v11 I8 A9 L10 => if v11 = 0 then (some (0, I8, A9, L10)) else (g_lt (va_up I8 917 (I8 920)) (fun I12 => g_b2 (f_X3_readFigure I12 A9 L10) (fun v17 I14 A15 L16 => if v17 = 0 then (some (0, I14, A15, L16)) else (g_lt (va_up I14 918 (I14 920)) (fun I18 => g_b2 (f_X3_look I18 A15 L16) (fun v23 I20 A21 L22 => if v23 = 47 then (Option.bind (f_X6_isSign I20 A21 L22 (I20 916) (I20 917) (I20 918)) (fun v25 => if v25 = 0 then (some (0, I20, A21, L22)) else (g_lt (va_up I20 914 ((I20 914) + 1)) (fun I26 => some (1, I26, A21, L22))))) else (some (0, I20, A21, L22))))))))))))
def f_X3_readOff_p105   (x1 : Int32) (I : Nat → Int32) (A : Nat → Nat → Int32) (L : Nat → Int64) : Option (Int32 × gS) :=
  if 2 < ((I 914) - x1) then (g_lt (va_up I 914 x1) (fun I1 => some (0, I1, A, L))) else (Option.bind (f_X6_isOff I A L (I 919)) (fun v3 => if v3 = 0 then (g_lt (va_up I 914 x1) (fun I4 => some (0, I4, A, L))) else (some (1, I, A, L))))
def f_X3_readOff_p15   : Nat → Int32 → (Nat → Int32) → (Nat → Nat → Int32) → (Nat → Int64) → Option (Int32 × gS)
  | 0 => fun _ _ _ _ => none
  | n + 1 => fun x1 I A L => if (I 913) ≤ (I 914) then (f_X3_readOff_p105 x1 I A L) else (g_ck (I 914) 120 (if (A 58 (Int32.toNatClampNeg (I 914))) < 48 then (f_X3_readOff_p105 x1 I A L) else (g_ck (I 914) 120 (if 57 < (A 58 (Int32.toNatClampNeg (I 914))) then (f_X3_readOff_p105 x1 I A L) else (if 2 ≤ ((I 914) - x1) then (g_lt (va_up I 919 0) (fun I1 => g_lt (va_up I1 914 ((I1 914) + 1)) (fun I2 => f_X3_readOff_p15 n x1 I2 A L))) else (g_ck (I 914) 120 (g_lt (va_up I 919 (((10 * (I 919)) + (A 58 (Int32.toNatClampNeg (I 914)))) - 48)) (fun I3 => g_lt (va_up I3 914 ((I3 914) + 1)) (fun I4 => f_X3_readOff_p15 n x1 I4 A L)))))))))
def f_X3_readOff   (I : Nat → Int32) (A : Nat → Nat → Int32) (L : Nat → Int64) : Option (Int32 × gS) :=
  g_b2 (f_X3_look I A L) (fun v5 I2 A3 L4 => g_lt (va_up I2 919 0) (fun I6 => f_X3_readOff_p15 4096 (I2 914) I6 A3 L4))
def f_X3_endOne (q1 : Nat) (q2 : Nat)  (I : Nat → Int32) (A : Nat → Nat → Int32) (L : Nat → Int64) : Option (Int32 × gS) :=
  g_b2 (f_X3_look I A L) (fun v5 I2 A3 L4 => if v5 = 59 then (g_b1 (f_X0_gather (I2 915) (I2 916) (I2 917) (I2 918) I2 A3 L4) (fun I7 A8 L9 => if ((I7 (16 * q1 + 4)) + (I7 (16 * q2 + 2))) ≤ 32 then (g_b1 (f_X2_putFamily q1 q2 (I7 919) I7 A8 L9) (fun I11 A12 L13 => g_lt (va_up I11 914 ((I11 914) + 1)) (fun I14 => some (1, I14, A12, L13)))) else (some (0, I7, A8, L9)))) else (some (0, I2, A3, L4)))
def f_X3_isColonAhead_p5 (I : Nat → Int32) (A : Nat → Nat → Int32) (L : Nat → Int64)  : Nat → Int32 → Option Int32
  | 0 => fun _ => none
  | n + 1 => fun x1 => if (I 913) ≤ x1 then (some 0) else (g_ck x1 120 (if (A 58 (Int32.toNatClampNeg x1)) = 59 then (some 0) else (g_ck x1 120 (if (A 58 (Int32.toNatClampNeg x1)) = 58 then (some 1) else (f_X3_isColonAhead_p5 I A L n (x1 + 1))))))
def f_X3_isColonAhead (I : Nat → Int32) (A : Nat → Nat → Int32) (L : Nat → Int64) : Option Int32 :=
  f_X3_isColonAhead_p5 I A L 4096 (I 914)
def f_X3_readTurns_p38  (k2 : Int32 → (Nat → Int32) → (Nat → Nat → Int32) → (Nat → Int64) → Option (Int32 × gS)) (x1 : Int32) (x2 : Int32) (I : Nat → Int32) (A : Nat → Nat → Int32) (L : Nat → Int64) : Option (Int32 × gS) :=
  if x2 < 48 then (some (0, I, A, L)) else (if x2 ≤ 53 then (g_lt (va_up I 915 ((I 915) ||| (1 <<< ((x2 - 48) &&& 31)))) (fun I1 => g_lt (va_up I1 914 ((I1 914) + 1)) (fun I2 => k2 (x1 + 1) I2 A L))) else (some (0, I, A, L)))
def f_X3_readTurns_p2   : Nat → Int32 → (Nat → Int32) → (Nat → Nat → Int32) → (Nat → Int64) → Option (Int32 × gS)
  | 0 => fun _ _ _ _ => none
  | n + 1 => fun x1 I A L => if 120 ≤ x1 then (some (0, I, A, L)) else (g_b2 (f_X3_look I A L) (fun v5 I2 A3 L4 => if v5 = 58 then (if (I2 915) = 0 then (f_X3_readTurns_p38 (f_X3_readTurns_p2 n) x1 v5 I2 A3 L4) else (g_lt (va_up I2 914 ((I2 914) + 1)) (fun I6 => some (1, I6, A3, L4)))) else (f_X3_readTurns_p38 (f_X3_readTurns_p2 n) x1 v5 I2 A3 L4)))
def f_X3_readTurns   (I : Nat → Int32) (A : Nat → Nat → Int32) (L : Nat → Int64) : Option (Int32 × gS) :=
  f_X3_readTurns_p2 4096 0 I A L
def f_X3_readOne_p21 (q1 : Nat) (q2 : Nat)  (I : Nat → Int32) (A : Nat → Nat → Int32) (L : Nat → Int64) : Option (Int32 × gS) :=
  g_b2 (f_X3_readSign I A L) (fun v5 I2 A3 L4 => if v5 = 0 then (some (0, I2, A3, L4)) else (g_b2 (f_X3_readOff I2 A3 L4) (fun v10 I7 A8 L9 => if v10 = 0 then (some (0, I7, A8, L9)) else (g_b2 (f_X3_endOne q1 q2 I7 A8 L9) (fun v15 I12 A13 L14 => if v15 = 0 then (some (0, I12, A13, L14)) else (some (1, I12, A13, L14)))))))
def f_X3_readOne (q1 : Nat) (q2 : Nat)  (I : Nat → Int32) (A : Nat → Nat → Int32) (L : Nat → Int64) : Option (Int32 × gS) :=
  g_lt (va_up I 915 0) (fun I1 => Option.bind (f_X3_isColonAhead I1 A L) (fun v3 => if v3 = 0 then (f_X3_readOne_p21 q1 q2 I1 A L) else (g_b2 (f_X3_readTurns I1 A L) (fun v8 I5 A6 L7 => if v8 = 0 then (some (0, I5, A6, L7)) else (f_X3_readOne_p21 q1 q2 I5 A6 L7)))))
def f_X3_readAll_p7 (q1 : Nat) (q2 : Nat)  : Nat → Int32 → (Nat → Int32) → (Nat → Nat → Int32) → (Nat → Int64) → Option (Int32 × gS)
  | 0 => fun _ _ _ _ => none
  | n + 1 => fun x3 I A L => if 120 ≤ x3 then (some (0, I, A, L)) else (g_b2 (f_X3_readOne q1 q2 I A L) (fun v5 I2 A3 L4 => if v5 = 0 then (some (0, I2, A3, L4)) else (g_b2 (f_X3_look I2 A3 L4) (fun v10 I7 A8 L9 => if v10 = (-1) then (some (1, I7, A8, L9)) else (f_X3_readAll_p7 q1 q2 n (x3 + 1) I7 A8 L9)))))
def f_X3_readAll (q1 : Nat) (q2 : Nat)  (I : Nat → Int32) (A : Nat → Nat → Int32) (L : Nat → Int64) : Option (Int32 × gS) :=
  g_lt (va_up I 914 0) (fun I1 => f_X3_readAll_p7 q1 q2 4096 0 I1 A L)
def f_X6_reads   (I : Nat → Int32) (A : Nat → Nat → Int32) (L : Nat → Int64) : Option (Int32 × gS) :=
  g_b1 (f_X2_copyFrom 6 1 I A L) (fun I2 A3 L4 => g_b2 (f_X3_readAll 6 54 I2 A3 L4) (fun v9 I6 A7 L8 => if v9 = 0 then (some (((-10) - (I6 914)), I6, A7, L8)) else (g_lt ((I6 100) - (I6 20)) (fun v10 => g_b1 (f_X6_leaveState I6 A7 L8) (fun I12 A13 L14 => g_b1 (f_X2_copyFrom 1 6 I12 A13 L14) (fun I16 A17 L18 => some (v10, I16, A17, L18)))))))
def f_X5_takeBack (q1 : Nat)  (I : Nat → Int32) (A : Nat → Nat → Int32) (L : Nat → Int64) : Option gS :=
  g_ck (I 177) 5 (g_b1 (f_X2_copyFrom q1 (13 + 5 * (Int32.toNatClampNeg (I 177))) I A L) (fun I4 A5 L6 => g_lt (va_up I4 177 ((((I4 177) + 5) - 1) - (((I4 177) + 5) - 1) / 5 * 5)) (fun I7 => g_lt (va_up I7 178 ((I7 178) - 1)) (fun I8 => some (I8, A5, L6)))))
def f_X6_back   (I : Nat → Int32) (A : Nat → Nat → Int32) (L : Nat → Int64) : Option (Int32 × gS) :=
  if 0 < (I 178) then (g_b1 (f_X5_takeBack 1 I A L) (fun I2 A3 L4 => g_b1 (f_X6_forgetCrystal I2 A3 L4) (fun I6 A7 L8 => some ((I6 178), I6, A7, L8)))) else (g_b2 (f_X6_refuseNo I A L) (fun v13 I10 A11 L12 => some (v13, I10, A11, L12)))
def f_X6_howMany (I : Nat → Int32) (A : Nat → Nat → Int32) (L : Nat → Int64) (a0 : Int32) : Option Int32 :=
  if a0 = 0 then (some (I 13)) else if a0 = 1 then (some (I 14)) else if a0 = 2 then (some (I 15)) else if a0 = 3 then (some (I 913)) else if a0 = 4 then (some (I 20)) else some (I 178)
def f_X6_told_p9   (I : Nat → Int32) (A : Nat → Nat → Int32) (L : Nat → Int64) : Option (Int32 × gS) :=
  g_b2 (f_X6_refuseBad (-2) I A L) (fun v5 I2 A3 L4 => some (v5, I2, A3, L4))
def f_X6_told  (a0 : Int32) (I : Nat → Int32) (A : Nat → Nat → Int32) (L : Nat → Int64) : Option (Int32 × gS) :=
  if a0 < 0 then (f_X6_told_p9 I A L) else (if a0 ≤ 5 then (Option.bind (f_X6_howMany I A L a0) (fun v2 => some (v2, I, A, L))) else (f_X6_told_p9 I A L))
def f_X4_addCornersTo_p17 (b : Nat) (I : Nat → Int32) (A : Nat → Nat → Int32) (L : Nat → Int64) (k5 : Int64 → Int32 → Option Int64) : Nat → Int64 → Int32 → Int32 → Option Int64
  | 0 => fun _ _ _ => none
  | n + 1 => fun x3 x5 x6 => if 3 ≤ x6 then (k5 x3 (x5 + 1)) else (Option.bind (f_X4_coordinate b I A L x5 x6) (fun v2 => g_ck x5 60 (Option.bind (f_X6_commonDivisor I A L v2 (A (b + 4) (Int32.toNatClampNeg x5))) (fun v4 => g_lt (if 1 < v4 then v4 else 1) (fun v5 => g_dv v5 (g_lt ((31 * x3) + (Int32.toInt64 (v2 / v5))) (fun v7 => g_ck x5 60 (g_dv v5 (g_lt ((31 * v7) + (Int32.toInt64 ((A (b + 4) (Int32.toNatClampNeg x5)) / v5))) (fun v9 => f_X4_addCornersTo_p17 b I A L k5 n v9 x5 (x6 + 1)))))))))))
def f_X4_addCornersTo_p5 (b : Nat) (I : Nat → Int32) (A : Nat → Nat → Int32) (L : Nat → Int64)  : Nat → Int64 → Int32 → Option Int64
  | 0 => fun _ _ => none
  | n + 1 => fun x3 x5 => if (I (16 * b + 7)) ≤ x5 then (some x3) else (f_X4_addCornersTo_p17 b I A L (f_X4_addCornersTo_p5 b I A L n) 4096 x3 x5 0)
def f_X4_addCornersTo (b : Nat) (I : Nat → Int32) (A : Nat → Nat → Int32) (L : Nat → Int64) (a0 : Int64) : Option Int64 :=
  f_X4_addCornersTo_p5 b I A L 4096 a0 0
def f_X6_digest_p56  (k41 : Int64 → Int32 → (Nat → Int32) → (Nat → Nat → Int32) → (Nat → Int64) → Option (Int64 × gS)) : Nat → Int64 → Int32 → Int32 → (Nat → Int32) → (Nat → Nat → Int32) → (Nat → Int64) → Option (Int64 × gS)
  | 0 => fun _ _ _ _ _ _ => none
  | n + 1 => fun x2 x4 x5 I A L => if 4 < x5 then (k41 x2 (x4 + 1) I A L) else (g_b2 (f_X6_ofPlane x4 x5 I A L) (fun v5 I2 A3 L4 => g_lt ((31 * x2) + (Int32.toInt64 v5)) (fun v6 => f_X6_digest_p56 k41 n v6 x4 (x5 + 1) I2 A3 L4)))
def f_X6_digest_p41   : Nat → Int64 → Int32 → (Nat → Int32) → (Nat → Nat → Int32) → (Nat → Int64) → Option (Int64 × gS)
  | 0 => fun _ _ _ _ _ => none
  | n + 1 => fun x2 x4 I A L => if (I 20) ≤ x4 then (Option.bind (f_X4_showing 38 I A L) (fun v2 => g_lt ((31 * x2) + (Int32.toInt64 v2)) (fun v3 => g_lt ((31 * v3) + (Int32.toInt64 (I 615))) (fun v4 => Option.bind (f_X4_edges 38 I A L) (fun v6 => g_lt ((31 * v4) + (Int32.toInt64 v6)) (fun v7 => g_lt ((31 * v7) + (Int32.toInt64 (I 11))) (fun v8 => g_lt ((31 * v8) + (Int32.toInt64 (I 12))) (fun v9 => Option.bind (f_X4_addCornersTo 38 I A L v9) (fun v11 => some (v11, I, A, L)))))))))) else (f_X6_digest_p56 (f_X6_digest_p41 n) 4096 x2 x4 0 I A L)
def f_X6_digest_p12   : Nat → Int64 → Int32 → (Nat → Int32) → (Nat → Nat → Int32) → (Nat → Int64) → Option (Int64 × gS)
  | 0 => fun _ _ _ _ _ => none
  | n + 1 => fun x2 x4 I A L => if 5 < x4 then (f_X6_digest_p41 4096 x2 0 I A L) else (Option.bind (f_X6_howMany I A L x4) (fun v2 => g_lt ((31 * x2) + (Int32.toInt64 v2)) (fun v3 => f_X6_digest_p12 n v3 (x4 + 1) I A L)))
def f_X6_digest   (I : Nat → Int32) (A : Nat → Nat → Int32) (L : Nat → Int64) : Option (Int64 × gS) :=
  g_b1 (f_X6_crystal I A L) (fun I2 A3 L4 => f_X6_digest_p12 4096 2179 0 I2 A3 L4)
