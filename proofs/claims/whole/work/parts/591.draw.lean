/-! draw -/
def lNq (x : Int64) (n : Nat) : Prop := x.toInt = (n : Int)
theorem l_mul {x y : Int64} {a b : Nat} (h : lNq x a) (k : lNq y b) (hb : a * b < 9223372036854775808) : lNq (x * y) (a * b) := by
  unfold lNq at *
  rw [Int64.toInt_mul, h, k, ← Int.natCast_mul]
  exact Int.bmod_eq_of_le (by omega) (by omega)
theorem l_add {x y : Int64} {a b : Nat} (h : lNq x a) (k : lNq y b) (hb : a + b < 9223372036854775808) : lNq (x + y) (a + b) := by
  unfold lNq at *
  rw [Int64.toInt_add, h, k, ← Int.natCast_add]
  exact Int.bmod_eq_of_le (by omega) (by omega)
theorem l_sub {x y : Int64} {a b : Nat} (h : lNq x a) (k : lNq y b) (hb : b ≤ a) (ha : a < 9223372036854775808) : lNq (x - y) (a - b) := by
  unfold lNq at *
  rw [Int64.toInt_sub, h, k, Int.natCast_sub hb]
  exact Int.bmod_eq_of_le (by omega) (by omega)
theorem l_div {x y : Int64} {a b : Nat} (h : lNq x a) (k : lNq y b) (ha : a < 9223372036854775808) : lNq (x / y) (a / b) := by
  unfold lNq at *
  have e : ((a : Int).tdiv (b : Int)) = ((a / b : Nat) : Int) := rfl
  have := Nat.div_le_self a b
  rw [Int64.toInt_div, h, k, e]
  generalize a / b = q at *
  exact Int.bmod_eq_of_le (by omega) (by omega)
theorem l_rem {x y : Int64} {a b : Nat} (h : lNq x a) (k : lNq y b) (ha : a < 9223372036854775808) : lNq (x - x / y * y) (a % b) := by
  have hle : a / b * b ≤ a := Nat.div_mul_le_self a b
  have q := l_sub h (l_mul (l_div h k ha) k (by omega)) hle ha
  have e : a - a / b * b = a % b := by
    have h1 := Nat.div_add_mod a b
    have h2 : b * (a / b) = a / b * b := Nat.mul_comm _ _
    omega
  rw [e] at q
  exact q
theorem l_32 {x : Int64} {n : Nat} (h : lNq x n) (hn : n < 2147483648) : Int64.toInt32 x = Int32.ofNat n := by
  unfold lNq at h
  rw [i_eq, Int64.toInt_toInt32, h, i_nat hn]
  exact Int.bmod_eq_of_le (by omega) (by omega)
def nx (x : Int64) : Int64 := ((x * 1103515245) + 12345) - ((x * 1103515245) + 12345) / 2147483648 * 2147483648
theorem nx_n {x : Int64} {m : Nat} (h : lNq x m) (hm : m < 2147483648) : ∃ m', lNq (nx x) m' ∧ m' < 2147483648 := by
  have e1 : lNq 1103515245 1103515245 := by unfold lNq; decide
  have e2 : lNq 12345 12345 := by unfold lNq; decide
  have e3 : lNq 2147483648 2147483648 := by unfold lNq; decide
  refine ⟨_, l_rem (l_add (l_mul h e1 (by omega)) e2 (by omega)) e3 (by omega), ?_⟩
  exact Nat.mod_lt _ (by omega)
def dh (x : Int64) : Int32 := (Int64.toInt32 ((x / 65536) - (x / 65536) / 7 * 7)) - 3
def dk (x : Int64) : Int32 := (Int64.toInt32 ((x / 1024) - (x / 1024) / 7 * 7)) - 3
def dl (x : Int64) : Int32 := (Int64.toInt32 ((x / 32768) - (x / 32768) / 7 * 7)) - 3
def doo (x : Int64) : Int32 := 10 + (Int64.toInt32 ((x / 512) - (x / 512) / 31 * 31))
def pq (x : Int64) : Pl := (if dh x = 0 ∧ dk x = 0 ∧ dl x = 0 then 1 else dh x, dk x, dl x, doo x)
theorem d7 {x y : Int64} {m c : Nat} (h : lNq x m) (hm : m < 2147483648) (hc : lNq y c) : -3 ≤ (Int64.toInt32 ((x / y) - (x / y) / 7 * 7)) - 3 ∧ (Int64.toInt32 ((x / y) - (x / y) / 7 * 7)) - 3 ≤ 3 := by
  have e7 : lNq 7 7 := by unfold lNq; decide
  have q1 := Nat.div_le_self m c
  have q := l_rem (l_div h hc (by omega)) e7 (by omega)
  have q2 : m / c % 7 < 7 := Nat.mod_lt _ (by omega)
  rw [l_32 q (by omega)]
  have key : ∀ r, r < 7 → -3 ≤ Int32.ofNat r - 3 ∧ Int32.ofNat r - 3 ≤ 3 := by decide
  exact key _ q2
theorem d31 {x y : Int64} {m c : Nat} (h : lNq x m) (hm : m < 2147483648) (hc : lNq y c) : 1 ≤ 10 + (Int64.toInt32 ((x / y) - (x / y) / 31 * 31)) ∧ 10 + (Int64.toInt32 ((x / y) - (x / y) / 31 * 31)) ≤ 60 := by
  have e7 : lNq 31 31 := by unfold lNq; decide
  have q1 := Nat.div_le_self m c
  have q := l_rem (l_div h hc (by omega)) e7 (by omega)
  have q2 : m / c % 31 < 31 := Nat.mod_lt _ (by omega)
  rw [l_32 q (by omega)]
  have key : ∀ r, r < 31 → 1 ≤ 10 + Int32.ofNat r ∧ 10 + Int32.ofNat r ≤ 60 := by decide
  exact key _ q2
theorem pq_ok {x : Int64} {m : Nat} (h : lNq x m) (hm : m < 2147483648) : okP (pq x) := by
  have h1 : -3 ≤ dh x ∧ dh x ≤ 3 := d7 h hm (show lNq 65536 65536 by unfold lNq; decide)
  have h2 : -3 ≤ dk x ∧ dk x ≤ 3 := d7 h hm (show lNq 1024 1024 by unfold lNq; decide)
  have h3 : -3 ≤ dl x ∧ dl x ≤ 3 := d7 h hm (show lNq 32768 32768 by unfold lNq; decide)
  have h4 : 1 ≤ doo x ∧ doo x ≤ 60 := d31 h hm (show lNq 512 512 by unfold lNq; decide)
  unfold pq
  refine okP_of ⟨?_, h2, h3, ?_⟩ h4
  · split
    · decide
    · exact h1
  · split
    · exact fun z => absurd z.1 (by decide)
    · next z => exact z
/-- the planes that are drawn -/
def dr : Nat → Int64 → List Pl → List Pl
  | 0, _, pl => pl
  | n + 1, x, pl => dr n (nx x) (pl ++ [pq (nx x)])
theorem putD_s {x : Int64} {I : Nat → Int32} {A : Nat → Nat → Int32} {L : Nat → Int64} {pl : List Pl} (hp : rpX (I 20) (A 2) (A 3) (A 4) (A 5) pl) (hl : pl.length < 32) : ∃ A', f_X6_putDrawn x I A L = some (va_up I 20 (Int32.ofNat (pl.length + 1)), A', L) ∧ rpX (Int32.ofNat (pl.length + 1)) (A' 2) (A' 3) (A' 4) (A' 5) (pl ++ [pq x]) ∧ ∀ r, (r ≤ 1 ∨ 5 < r) → A' r = A r := by
  have p57 : ∀ h k l, f_X6_putDrawn_p57 x h k l I A L = f_X2_put 1 h k l (doo x) I A L := fun h k l => by
    unfold f_X6_putDrawn_p57
    obtain ⟨A', e, -⟩ := put_s (b := 1) (h := h) (k := k) (l := l) (o := doo x) (L := L) hp hl
    show g_b1 (f_X2_put 1 h k l (doo x) I A L) _ = _
    rw [e]; rfl
  have ep : f_X6_putDrawn x I A L = f_X2_put 1 (pq x).1 (pq x).2.1 (pq x).2.2.1 (pq x).2.2.2 I A L := by
    show (if dh x = 0 then (if dk x = 0 then (if dl x = 0 then (f_X6_putDrawn_p57 x 1 (dk x) (dl x) I A L) else (f_X6_putDrawn_p57 x (dh x) (dk x) (dl x) I A L)) else (f_X6_putDrawn_p57 x (dh x) (dk x) (dl x) I A L)) else (f_X6_putDrawn_p57 x (dh x) (dk x) (dl x) I A L)) = f_X2_put 1 (if dh x = 0 ∧ dk x = 0 ∧ dl x = 0 then 1 else dh x) (dk x) (dl x) (doo x) I A L
    rw [p57, p57]
    by_cases c1 : dh x = 0
    · by_cases c2 : dk x = 0
      · by_cases c3 : dl x = 0
        · rw [if_pos c1, if_pos c2, if_pos c3, if_pos ⟨c1, c2, c3⟩]
        · rw [if_pos c1, if_pos c2, if_neg c3, if_neg (fun z => c3 z.2.2)]
      · rw [if_pos c1, if_neg c2, if_neg (fun z => c2 z.2.1)]
    · rw [if_neg c1, if_neg (fun z => c1 z.1)]
  rw [ep]
  exact put_s (b := 1) (L := L) hp hl
theorem drX_l {N : Nat} (hN : N ≤ 26) {L : Nat → Int64} : ∀ (n j : Nat) (x : Int64) (m : Nat) (I : Nat → Int32) (A : Nat → Nat → Int32) (pl : List Pl), j ≤ N → N - j < n → lNq x m → m < 2147483648 → okL pl → pl.length = 6 + j → rpX (I 20) (A 2) (A 3) (A 4) (A 5) pl → ∃ I' A', f_X6_draw_p47 n (Int32.ofNat N) x (Int32.ofNat j) I A L = g_b1 (f_X6_crystal I' A' L) (fun I2 A3 L4 => some ((I2 615), I2, A3, L4)) ∧ okL (dr (N - j) x pl) ∧ rpX (I' 20) (A' 2) (A' 3) (A' 4) (A' 5) (dr (N - j) x pl) ∧ (∀ i, i ≠ 20 → I' i = I i) ∧ ∀ r, (r ≤ 1 ∨ 5 < r) → A' r = A r := by
  intro n
  induction n with
  | zero => intro j x m I A pl h1 h2; omega
  | succ n ih =>
    intro j x m I A pl j1 j2 hx hm ok hl hp
    rw [f_X6_draw_p47_e]
    by_cases e : j = N
    · rw [if_pos (by rw [e]; exact o_le (by omega) (by omega) (by omega)), e, Nat.sub_self]
      exact ⟨I, A, rfl, ok, hp, fun _ _ => rfl, fun _ _ => rfl⟩
    · rw [if_neg (o_nle (by omega) (by omega) (by omega)), g_lt_eq]
      obtain ⟨m', x1, x2⟩ := nx_n hx hm
      obtain ⟨A1, p1, p2, p3⟩ := putD_s (x := nx x) (L := L) hp (by omega)
      have p1' : f_X6_putDrawn (((x * 1103515245) + 12345) - ((x * 1103515245) + 12345) / 2147483648 * 2147483648) I A L = _ := p1
      rw [p1', b1_some, i_1]
      obtain ⟨I', A', k1, k2, k3, k4, k5⟩ := ih (j + 1) (nx x) m' (va_up I 20 (Int32.ofNat (pl.length + 1))) A1 (pl ++ [pq (nx x)]) (by omega) (by omega) x1 x2 (okL_app ok (pq_ok x1 x2) (by omega)) (by rw [List.length_append]; show pl.length + 1 = _; omega) (by rw [us]; exact p2)
      rw [show N - j = (N - (j + 1)) + 1 by omega]
      exact ⟨I', A', k1, k2, k3, fun i hi => by rw [k4 i hi, un _ _ hi], fun r hr => by rw [k5 r hr, p3 r hr]⟩
theorem drM_s (n N j : Nat) (x : Int64) (I : Nat → Int32) (A : Nat → Nat → Int32) (L : Nat → Int64) : (g_lt (((x * 1103515245) + 12345) - ((x * 1103515245) + 12345) / 2147483648 * 2147483648) (fun v5 => g_lt ((Int64.toInt32 ((v5 / 65536) - (v5 / 65536) / 7 * 7)) - 3) (fun v6 => g_lt ((Int64.toInt32 ((v5 / 1024) - (v5 / 1024) / 7 * 7)) - 3) (fun v7 => g_lt ((Int64.toInt32 ((v5 / 32768) - (v5 / 32768) / 7 * 7)) - 3) (fun v8 => if v6 = 0 then (if v7 = 0 then (if v8 = 0 then (f_X7_draw_p133 (f_X7_draw_p49 n) (Int32.ofNat N) v5 (Int32.ofNat j) v7 v8 1 I A L) else (f_X7_draw_p131 (f_X7_draw_p49 n) (Int32.ofNat N) v5 (Int32.ofNat j) v6 v7 v8 I A L)) else (f_X7_draw_p131 (f_X7_draw_p49 n) (Int32.ofNat N) v5 (Int32.ofNat j) v6 v7 v8 I A L)) else (f_X7_draw_p131 (f_X7_draw_p49 n) (Int32.ofNat N) v5 (Int32.ofNat j) v6 v7 v8 I A L)))))) = g_b1 (f_X7_comes (pq (nx x)).1 (pq (nx x)).2.1 (pq (nx x)).2.2.1 (pq (nx x)).2.2.2 I A L) (fun I2 A3 L4 => f_X7_draw_p49 n (Int32.ofNat N) (nx x) (Int32.ofNat (j + 1)) I2 A3 L4) := by
  have en : ((x * 1103515245) + 12345) - ((x * 1103515245) + 12345) / 2147483648 * 2147483648 = nx x := rfl
  have p133 : ∀ y s k l, f_X7_draw_p133 (f_X7_draw_p49 n) (Int32.ofNat N) y (Int32.ofNat j) k l s I A L = g_b1 (f_X7_comes s k l (doo y) I A L) (fun I2 A3 L4 => f_X7_draw_p49 n (Int32.ofNat N) y (Int32.ofNat (j + 1)) I2 A3 L4) := fun y s k l => by
    have eo : 10 + (Int64.toInt32 ((y / 512) - (y / 512) / 31 * 31)) = doo y := rfl
    unfold f_X7_draw_p133
    rw [i_1, eo]
  have p131 : ∀ y s k l, f_X7_draw_p131 (f_X7_draw_p49 n) (Int32.ofNat N) y (Int32.ofNat j) s k l I A L = g_b1 (f_X7_comes s k l (doo y) I A L) (fun I2 A3 L4 => f_X7_draw_p49 n (Int32.ofNat N) y (Int32.ofNat (j + 1)) I2 A3 L4) := fun y s k l => by
    unfold f_X7_draw_p131
    exact p133 y s k l
  rw [g_lt_eq, en]
  generalize nx x = y
  have eh : (Int64.toInt32 ((y / 65536) - (y / 65536) / 7 * 7)) - 3 = dh y := rfl
  have ek : (Int64.toInt32 ((y / 1024) - (y / 1024) / 7 * 7)) - 3 = dk y := rfl
  have el : (Int64.toInt32 ((y / 32768) - (y / 32768) / 7 * 7)) - 3 = dl y := rfl
  have f1 : (pq y).1 = if dh y = 0 ∧ dk y = 0 ∧ dl y = 0 then 1 else dh y := rfl
  have f2 : (pq y).2.1 = dk y := rfl
  have f3 : (pq y).2.2.1 = dl y := rfl
  have f4 : (pq y).2.2.2 = doo y := rfl
  rw [g_lt_eq, g_lt_eq, g_lt_eq, eh, ek, el, f1, f2, f3, f4, p133, p131]
  by_cases c1 : dh y = 0
  · by_cases c2 : dk y = 0
    · by_cases c3 : dl y = 0
      · rw [if_pos c1, if_pos c2, if_pos c3, if_pos ⟨c1, c2, c3⟩]
      · rw [if_pos c1, if_pos c2, if_neg c3, if_neg (fun z => c3 z.2.2)]
    · rw [if_pos c1, if_neg c2, if_neg (fun z => c2 z.2.1)]
  · rw [if_neg c1, if_neg (fun z => c1 z.1)]
theorem drM_l {N : Nat} (hN : N ≤ 26) {I : Nat → Int32} {L : Nat → Int64} : ∀ (n j : Nat) (x : Int64) (A : Nat → Nat → Int32) (pl : List Pl), j ≤ N → N - j < n → pl.length = 6 + j → rpM (A 60) 0 pl → ∃ s', f_X7_draw_p49 n (Int32.ofNat N) x (Int32.ofNat j) I A L = g_b1 (f_X7_lays I (va_up A 60 s') L) (fun I2 A3 L4 => some ((I2 955), I2, A3, L4)) ∧ rpM s' 0 (dr (N - j) x pl) := by
  intro n
  induction n with
  | zero => intro j x A pl h1 h2; omega
  | succ n ih =>
    intro j x A pl j1 j2 hl hp
    rw [f_X7_draw_p49_e]
    by_cases e : j = N
    · rw [if_pos (by rw [e]; exact o_le (by omega) (by omega) (by omega)), e, Nat.sub_self]
      exact ⟨A 60, by rw [uself], hp⟩
    · rw [if_neg (o_nle (by omega) (by omega) (by omega)), drM_s n N j x I A L]
      obtain ⟨s1, p1, p2, p3⟩ := comes_s (h := (pq (nx x)).1) (k := (pq (nx x)).2.1) (l := (pq (nx x)).2.2.1) (o := (pq (nx x)).2.2.2) (I := I) (L := L) hp (by omega)
      rw [p1, b1_some]
      obtain ⟨s', k1, k2⟩ := ih (j + 1) (nx x) (va_up A 60 s1) (pl ++ [pq (nx x)]) (by omega) (by omega) (by rw [List.length_append]; show pl.length + 1 = _; omega) (by rw [us]; exact p2)
      rw [show N - j = (N - (j + 1)) + 1 by omega]
      exact ⟨s', by rw [k1, uu], k2⟩
theorem inv_change3 {I : Nat → Int32} {A : Nat → Nat → Int32} {L : Nat → Int64} {pl pl' : List Pl} {past : List (List Pl)}
    (hTx : vTx (I 913) (A 58) (I 950) (A 64)) (hCn : vCn (I 13) (I 14) (I 15) (A 63)) (hFr : vFr (I 11) (I 12) (L 952) (L 953)) (hok : ∀ q ∈ psh past pl, okL q)
    {I2 : Nat → Int32} {A2 : Nat → Nat → Int32} (hx : vStX (I2 177) (I2 178) (rgX I2 A2) (psh past pl)) (h7 : I2 7 = 0 ∨ (I2 7 = 1 ∧ vSo (I2 615) (I2 616) (A2 39) (A2 40) (A2 41) (A2 42) (A2 43) (A2 44) pl')) (h8 : I2 8 = 0) (eI : ∀ i, (11 ≤ i ∧ i ≤ 15) ∨ i = 913 ∨ i = 950 → I2 i = I i) (eA : ∀ r, (r = 58 ∨ r = 63 ∨ r = 64) → A2 r = A r)
    {k : Int32} {r61 r62 s' : Nat → Int32} (hm : vStM k r61 (psh past pl)) (hP : vPl (I2 20) (A2 2) (A2 3) (A2 4) (A2 5) s' pl') : Inv (va_up I2 946 k) (va_up (va_up (va_up A2 62 r62) 61 r61) 60 s') L := by
  refine ⟨pl', psh past pl, ?_, ?_, ?_, ?_, ?_, ?_, ?_⟩
  · simp only [va_up, Nat.reduceEqDiff, reduceIte]
    exact hP
  · have e : rgX (va_up I2 946 k) (va_up (va_up (va_up A2 62 r62) 61 r61) 60 s') = rgX I2 A2 := rgX_up (fun i a b => un _ _ (by omega)) (fun r a b => by rw [un _ _ (by omega), un _ _ (by omega), un _ _ (by omega)])
    rw [e]
    simp only [va_up, Nat.reduceEqDiff, reduceIte]
    exact vSt_join hx hm hok
  · simp only [va_up, Nat.reduceEqDiff, reduceIte]
    rw [eI 913 (by omega), eI 950 (by omega), eA 58 (by omega), eA 64 (by omega)]
    exact hTx
  · simp only [va_up, Nat.reduceEqDiff, reduceIte]
    rw [eI 13 (by omega), eI 14 (by omega), eI 15 (by omega), eA 63 (by omega)]
    exact hCn
  · simp only [va_up, Nat.reduceEqDiff, reduceIte]
    rw [eI 11 (by omega), eI 12 (by omega)]
    exact hFr
  · simp only [va_up, Nat.reduceEqDiff, reduceIte]
    exact h7
  · left
    simp only [va_up, Nat.reduceEqDiff, reduceIte]
    exact h8
theorem tk_D {pl : List Pl} {j : Nat} (hj : j < 6) : (pl.take 6).getD j p0 = pl.getD j p0 := by
  rw [List.getD_eq_getElem?_getD, List.getD_eq_getElem?_getD, List.getElem?_take, if_pos hj]
theorem tk_len {pl : List Pl} (ok : okL pl) : (pl.take 6).length = 6 := by
  rw [List.length_take]
  have := ok.1
  omega
theorem tk_ok {pl : List Pl} (ok : okL pl) : okL (pl.take 6) := by
  refine ⟨by rw [tk_len ok]; omega, by rw [tk_len ok]; omega, fun p hp => ok.2.2.1 p (List.mem_of_mem_take hp), fun j hj => ?_⟩
  rw [tk_D hj]
  exact ok.2.2.2 j hj
theorem st_draw : gStep_draw Inv := by
  intro s n I A L hI
  have bx : f_X6_draw_p21 I A L = some (-2, va_up I 13 (I 13 + 1), A, L) := by unfold f_X6_draw_p21; rw [rf_bad]; rfl
  have bm : f_X7_draw_p20 (va_up I 13 (I 13 + 1)) A L = some (-2, va_up I 13 (I 13 + 1), va_up A 63 (upd (A 63) 0 (A 63 0 + 1)), L) := by unfold f_X7_draw_p20; rw [rm_bad]; rfl
  by_cases hs : 0 ≤ s ∧ s ≤ 999999
  · by_cases hn : 1 ≤ n ∧ n ≤ 26
    · obtain ⟨m, hm6, rfl⟩ := rng_n (n := 999999) (by omega) hs
      obtain ⟨N, hN, rfl⟩ := rng_n (a := n) (n := 26) (by omega) ⟨Int32.le_trans (by decide) hn.1, hn.2⟩
      have hx0 : lNq (Int32.toInt64 (Int32.ofNat m)) m := by
        unfold lNq
        rw [Int32.toInt_toInt64, i_nat (by omega)]
      obtain ⟨pl, past, ⟨ok, hx, hm⟩, hst, h3, h4, h5, h6, h7⟩ := id hI
      obtain ⟨sx, sm, so⟩ := vSt_split hst
      obtain ⟨I1, A1, e1, x1, x7, x8, xI, xA⟩ := leave_s (L := L) sx hx ok.2.1
      have tok := tk_ok ok
      have tlen := tk_len ok
      have ok6 := ok.1
      have rp0 : rpX (va_up I1 20 6 20) (A1 2) (A1 3) (A1 4) (A1 5) (pl.take 6) := by
        rw [us, xA 2 (by omega), xA 3 (by omega), xA 4 (by omega), xA 5 (by omega)]
        refine ⟨by rw [tlen]; rfl, fun j hj => ?_⟩
        rw [tlen] at hj
        rw [tk_D hj]
        exact hx.2 j (by omega)
      obtain ⟨I2, A2, d1, d2, d3, d4, d5⟩ := drX_l hN (L := L) 4096 0 (Int32.toInt64 (Int32.ofNat m)) m (va_up I1 20 6) A1 (pl.take 6) (by omega) (by omega) hx0 (by omega) tok (by omega) rp0
      rw [Nat.sub_zero] at d2 d3
      have i7 : I2 7 = 0 := by rw [d4 7 (by omega), un _ _ (by omega), x7]
      obtain ⟨I3, A3, vs, c1, c2, c3, c4, c5⟩ := crystal_s (L := L) d2 d3 (Or.inl i7)
      have eI : ∀ i, i ≠ 7 → i ≠ 8 → i ≠ 20 → i ≠ 177 → i ≠ 178 → (i < 212 ∨ 532 < i) → i ≠ 615 → i ≠ 616 → (i < 720 ∨ 730 < i) → I3 i = I i := fun i y1 y2 y3 y4 y5 y6 y7 y8 y9 => by
        rw [c4 i y1 y7 y8 y9, d4 i y3, un _ _ y3, xI i y4 y5 y1 y2 y6]
      have eI' : ∀ i, i ≠ 7 → i ≠ 20 → i ≠ 615 → i ≠ 616 → (i < 720 ∨ 730 < i) → I3 i = I1 i := fun i y1 y2 y3 y4 y5 => by
        rw [c4 i y1 y3 y4 y5, d4 i y2, un _ _ y2]
      have eA' : ∀ r, (6 ≤ r ∧ r ≤ 38) ∨ 44 < r → A3 r = A1 r := fun r hr => by rw [c5 r (by omega), d5 r (by omega)]
      have a60 : A3 60 = A 60 := by rw [eA' 60 (by omega), xA 60 (by omega)]
      have a61 : A3 61 = A 61 := by rw [eA' 61 (by omega), xA 61 (by omega)]
      obtain ⟨kk, r61, r62, hm1, e3⟩ := m_leave (I := I3) (A := A3) (L := L) (pl := pl) (past := past) (by rw [eI 946 (by omega) (by omega) (by omega) (by omega) (by omega) (by omega) (by omega) (by omega) (by omega), a61]; exact sm) (by rw [a60]; exact hm) ok.2.1 (fun I10 A11 L12 => g_ck 0 129 (g_lt (va_up A11 60 (upd (A11 60) (Int32.toNatClampNeg 0) 6)) (fun A13 => g_lt (Int32.toInt64 (Int32.ofNat m)) (fun v14 => f_X7_draw_p49 4096 (Int32.ofNat N) v14 0 I10 A13 L12))))
      have rm0 : rpM (upd (A 60) 0 6) 0 (pl.take 6) := by
        refine ⟨by rw [ds, tlen]; rfl, fun j hj => ?_⟩
        rw [tlen] at hj
        rw [tk_D hj, dn _ _ (by omega), dn _ _ (by omega), dn _ _ (by omega), dn _ _ (by omega)]
        exact hm.2 j (by omega)
      obtain ⟨s', m1, m2⟩ := drM_l hN (I := va_up I3 946 kk) (L := L) 4096 0 (Int32.toInt64 (Int32.ofNat m)) (va_up (va_up (va_up A3 62 r62) 61 r61) 60 (upd (A 60) 0 6)) (pl.take 6) (by omega) (by omega) (by omega) (by rw [us]; exact rm0)
      rw [Nat.sub_zero] at m2
      rw [uu] at m1
      have hI4 : Inv (va_up I3 946 kk) (va_up (va_up (va_up A3 62 r62) 61 r61) 60 s') L := by
        refine inv_change3 (I := I) (A := A) (pl := pl) (past := past) h3 h4 h5 (psh_ok so ok) ?_ (Or.inr ⟨c2, So_v c3⟩) ?_ ?_ ?_ hm1 ⟨d2, ?_, m2⟩
        · rw [eI' 177 (by omega) (by omega) (by omega) (by omega) (by omega), eI' 178 (by omega) (by omega) (by omega) (by omega) (by omega), rgX_up (I := I1) (A := A1) (fun i a b => eI' i (by omega) (by omega) (by omega) (by omega) (by omega)) (fun r a b => eA' r (by omega))]
          exact x1
        · rw [eI' 8 (by omega) (by omega) (by omega) (by omega) (by omega), x8]
        · intro i hi
          exact eI i (by omega) (by omega) (by omega) (by omega) (by omega) (by omega) (by omega) (by omega) (by omega)
        · intro r hr
          rw [eA' r (by omega), xA r (by omega)]
        · rw [c4 20 (by omega) (by omega) (by omega) (by omega), c5 2 (by omega), c5 3 (by omega), c5 4 (by omega), c5 5 (by omega)]
          exact d3
      obtain ⟨I5, A5, f1, f2, f3, f4⟩ := m_lay (L := L) d2 c3.1 (I := va_up I3 946 kk) (A := va_up (va_up (va_up A3 62 r62) 61 r61) 60 s') (by rw [us]; exact m2)
      refine ⟨Int32.ofNat vs.length, I3, A3, L, I5, A5, L, ?_, ?_, inv_lay hI4 f3 f4⟩
      · unfold f_X6_draw
        rw [if_neg (Int32.not_lt.mpr hs.1), if_neg (Int32.not_lt.mpr hs.2), if_neg (Int32.not_lt.mpr hn.1), if_pos hn.2, e1, b1_some, g_lt_eq, g_lt_eq]
        have d1' : f_X6_draw_p47 4096 (Int32.ofNat N) (Int32.toInt64 (Int32.ofNat m)) 0 (va_up I1 20 6) A1 L = _ := d1
        rw [d1', c1, b1_some, c3.2.2.1.1]
      · unfold f_X7_draw
        rw [m_in, if_pos hs, bd_some, if_neg (by decide), m_in, if_pos hn, bd_some, if_neg (by decide), e3, m_c0, g_lt_eq, g_lt_eq, un (j := 60) _ _ (by omega), un (j := 60) _ _ (by omega), a60]
        have m1' : f_X7_draw_p49 4096 (Int32.ofNat N) (Int32.toInt64 (Int32.ofNat m)) 0 (va_up I3 946 kk) (va_up (va_up (va_up A3 62 r62) 61 r61) 60 (upd (A 60) (Int32.toNatClampNeg 0) 6)) L = _ := m1
        rw [m1', f1, b1_some, f2.2.1.1]
    · refine ⟨-2, va_up I 13 (I 13 + 1), A, L, _, _, _, ?_, ?_, inv_bad hI⟩
      · unfold f_X6_draw
        rw [if_neg (Int32.not_lt.mpr hs.1), if_neg (Int32.not_lt.mpr hs.2)]
        by_cases h1 : n < 1
        · rw [if_pos h1, bx]
        · rw [if_neg h1, if_neg (fun q => hn ⟨i_nlt h1, q⟩), bx]
      · unfold f_X7_draw
        rw [m_in, if_pos hs, bd_some, if_neg (by decide), m_in, if_neg hn, bd_some, if_pos rfl, bm]
  · refine ⟨-2, va_up I 13 (I 13 + 1), A, L, _, _, _, ?_, ?_, inv_bad hI⟩
    · unfold f_X6_draw
      by_cases h1 : s < 0
      · rw [if_pos h1, bx]
      · rw [if_neg h1, if_pos (i_nle (fun q => hs ⟨i_nlt h1, q⟩)), bx]
    · unfold f_X7_draw
      rw [m_in, if_neg hs, bd_some, if_pos rfl, bm]
