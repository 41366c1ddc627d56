/-! Solid.look -/
theorem fill60_l (q : Nat) : ∀ (n j : Nat) (I : Nat → Int32) (A : Nat → Nat → Int32) (L : Nat → Int64), j ≤ 60 → 60 - j < n → ∃ row, f_J7_fill_53178_p5 q n 0 (Int32.ofNat j) 60 I A L = some (I, va_up A q row, L) ∧ (∀ i, i < j → row i = A q i) ∧ ∀ i, j ≤ i → i < 60 → row i = 0 := by
  intro n
  induction n with
  | zero => intro j I A L h1 h2; omega
  | succ n ih =>
    intro j I A L h1 h2
    rw [f_J7_fill_53178_p5_e]
    by_cases hj : j = 60
    · subst hj
      refine ⟨A q, ?_, fun _ _ => rfl, fun i h3 h4 => by omega⟩
      rw [if_pos (by decide), uself]
    · obtain ⟨row, e, g1, g2⟩ := ih (j + 1) I (va_up A q (upd (A q) j 0)) L (by omega) (by omega)
      refine ⟨row, ?_, fun i hi => ?_, fun i h3 h4 => ?_⟩
      · rw [if_neg (show ¬ (60 : Int32) ≤ Int32.ofNat j from o_nle (a := 60) (by omega) (by omega) (by omega)), o_ck (by omega) (by omega), g_lt_eq, i_1, i_tnn (by omega), e, uu]
      · rw [g1 i (by omega), us, dn _ _ (by omega)]
      · by_cases e1 : i = j
        · subst e1
          rw [g1 i (by omega), us, ds]
        · exact g2 i (by omega) h4
/-- how far along a sign, times d -/
def al (h k l : Int) (v : Q4) : Int := h * v.1 + k * v.2.1 + l * v.2.2.1
theorem along_s {b : Nat} {I : Nat → Int32} {A : Nat → Nat → Int32} {L : Nat → Int64} {vs : List Q4} {j : Nat} (hj : j < vs.length) (h60 : vs.length ≤ 60) (hr : vs.getD j q0 = rw4 A b j) (hb : bQ (vs.getD j q0)) {a1 a2 a3 : Int32} {h k l : Int} (h1 : bI a1 h 3) (h2 : bI a2 k 3) (h3 : bI a3 l 3) : ∃ o, f_X4_along b I A L (Int32.ofNat j) a1 a2 a3 = some o ∧ bI o (al h k l (vs.getD j q0)) 87480 := by
  obtain ⟨r1, r2, r3, r4⟩ := bP_row hr hb
  unfold f_X4_along
  rw [o_ck (by omega) (by omega), o_ck (by omega) (by omega), o_ck (by omega) (by omega), i_tnn (by omega)]
  exact ⟨_, rfl, b_w (b_add (b_add (b_mul h1 r1 (by decide)) (b_mul h2 r2 (by decide)) (by decide)) (b_mul h3 r3 (by decide)) (by decide)) (by decide)⟩
theorem crX_c {n : Int32} {A A' : Nat → Nat → Int32} {b : Nat} {vs : List Q4} (h : crX n A b vs) (e : ∀ r, b < r → r ≤ b + 4 → A' r = A r) : crX n A' b vs := by
  refine ⟨h.1, fun j hj => ?_⟩
  unfold rw4
  rw [e (b + 1) (by omega) (by omega), e (b + 2) (by omega) (by omega), e (b + 3) (by omega) (by omega), e (b + 4) (by omega) (by omega)]
  exact h.2 j hj
theorem mark_l {b : Nat} (hb38 : 38 ≤ b) {I : Nat → Int32} {L : Nat → Int64} {pl : List Pl} {vs : List Q4} (h60 : vs.length ≤ 60) (hb : ∀ v ∈ vs, bQ v) {p : Nat} (hp : p < pl.length) (hl : pl.length ≤ 32) (ho : okP (pl.getD p p0)) (hn : I (16 * b + 7) = Int32.ofNat vs.length) :
    ∀ (n j : Nat) (A : Nat → Nat → Int32), j ≤ vs.length → vs.length - j < n → (∀ i, i < vs.length → vs.getD i q0 = rw4 A b i) → pl.getD p p0 = (A 2 p, A 3 p, A 4 p, A 5 p) → (∀ i, i < j → A (b + 5) i = onB pl (vs.getD i q0) (p + 1)) → (∀ i, j ≤ i → i < vs.length → A (b + 5) i = onB pl (vs.getD i q0) p) →
    ∃ row, f_X4_markCornersOn_p5 b 1 n (Int32.ofNat p) (Int32.ofNat (sm j (fun i => ib (sd (pl.getD p p0) (vs.getD i q0) = 0)))) (Int32.ofNat j) I A L = some (Int32.ofNat (nOn pl vs p), I, va_up A (b + 5) row, L) ∧ ∀ i, i < vs.length → row i = onB pl (vs.getD i q0) (p + 1) := by
  intro n
  induction n with
  | zero => intro j A h1 h2; omega
  | succ n ih =>
    intro j A h1 h2 hr hR hlo hhi
    rw [f_X4_markCornersOn_p5_e, hn]
    by_cases e : j = vs.length
    · rw [if_pos (by rw [e]; exact o_le (by omega) (by omega) (by omega)), e, nOn_E, nOE_sm]
      refine ⟨A (b + 5), by rw [uself], fun i hi => hlo i (by omega)⟩
    · have hj : j < vs.length := by omega
      rw [if_neg (o_nle (by omega) (by omega) hj)]
      obtain ⟨o1, o2, o3, o4⟩ := okP_b ho
      have p1 : A (1 + 1) p = (pl.getD p p0).1 := by rw [hR]
      have p2 : A (1 + 2) p = (pl.getD p p0).2.1 := by rw [hR]
      have p3 : A (1 + 3) p = (pl.getD p p0).2.2.1 := by rw [hR]
      have p4 : A (1 + 4) p = (pl.getD p p0).2.2.2 := by rw [hR]
      simp only [o_ck (show p < 32 by omega) (show 32 < 2147483648 by omega), o_ck (show j < 60 by omega) (show 60 < 2147483648 by omega), i_tnn (show p < 2147483648 by omega), i_tnn (show j < 2147483648 by omega), p1, p2, p3, p4]
      obtain ⟨o, a1, a2⟩ := along_s (I := I) (L := L) hj h60 (hr j hj) (hb _ (vD_mem hj)) o1 o2 o3
      obtain ⟨-, -, -, r4⟩ := bP_row (hr j hj) (hb _ (vD_mem hj))
      rw [a1, bd_some]
      have k := b_eq a2 (b_mul o4 r4 (by decide))
      have k' : al (pl.getD p p0).1.toInt (pl.getD p p0).2.1.toInt (pl.getD p p0).2.2.1.toInt (vs.getD j q0) = (pl.getD p p0).2.2.2.toInt * (vs.getD j q0).2.2.2 ↔ sd (pl.getD p p0) (vs.getD j q0) = 0 := by
        unfold al sd; omega
      rw [i_1, i_1]
      by_cases c : sd (pl.getD p p0) (vs.getD j q0) = 0
      · rw [if_pos (k.mpr (k'.mpr c)), g_lt_eq]
        obtain ⟨row, b1, b2⟩ := ih (j + 1) (va_up A (b + 5) (upd (A (b + 5)) j (A (b + 5) j ||| (1 <<< (Int32.ofNat p &&& 31))))) (by omega) (by omega) (fun i hi => by
          have := hr i hi
          unfold rw4 at *
          rw [un _ _ (by omega), un _ _ (by omega), un _ _ (by omega), un _ _ (by omega)]
          exact this) (by rw [un _ _ (by omega), un _ _ (by omega), un _ _ (by omega), un _ _ (by omega)]; exact hR) (fun i hi => by
          rw [us]
          by_cases e1 : i = j
          · subst e1
            rw [ds, hhi i (by omega) hj, onB_s, if_pos c]
          · rw [dn _ _ e1]; exact hlo i (by omega)) (fun i i1 i2 => by rw [us, dn _ _ (by omega)]; exact hhi i (by omega) i2)
        rw [sm_s, ib_1 c] at b1
        exact ⟨row, by rw [b1, uu], b2⟩
      · rw [if_neg (fun q => c (k'.mp (k.mp q)))]
        obtain ⟨row, b1, b2⟩ := ih (j + 1) A (by omega) (by omega) hr hR (fun i hi => by
          by_cases e1 : i = j
          · rw [e1, hhi j (by omega) hj, onB_s, if_neg c]
          · exact hlo i (by omega)) (fun i i1 i2 => hhi i (by omega) i2)
        rw [sm_s, ib_0 c] at b1
        exact ⟨row, b1, b2⟩
theorem same_x {A : Nat → Nat → Int32} {I : Nat → Int32} {L : Nat → Int64} {pl : List Pl} (hl : pl.length ≤ 32) (ho : ∀ p ∈ pl, okP p) (hr : ∀ j, j < pl.length → pl.getD j p0 = (A 2 j, A 3 j, A 4 j, A 5 j)) {q p : Nat} (hq : q < pl.length) (hp : p < pl.length) : ∃ c, f_X2_areSame 1 I A L (Int32.ofNat q) (Int32.ofNat p) = some c ∧ ((c = 1 ∧ same (pl.getD q p0) (pl.getD p p0)) ∨ (c = 0 ∧ ¬ same (pl.getD q p0) (pl.getD p p0))) := by
  obtain ⟨a1, a2, a3, a4⟩ := okP_b (ho _ (pD_in hq))
  obtain ⟨b1, b2, b3, b4⟩ := okP_b (ho _ (pD_in hp))
  have k1 := b_eq (b_mul a1 b4 (by decide)) (b_mul b1 a4 (by decide))
  have k2 := b_eq (b_mul a2 b4 (by decide)) (b_mul b2 a4 (by decide))
  have k3 := b_eq (b_mul a3 b4 (by decide)) (b_mul b3 a4 (by decide))
  have q1 : A (1 + 1) q = (pl.getD q p0).1 := by rw [hr q hq]
  have q2 : A (1 + 2) q = (pl.getD q p0).2.1 := by rw [hr q hq]
  have q3 : A (1 + 3) q = (pl.getD q p0).2.2.1 := by rw [hr q hq]
  have q4 : A (1 + 4) q = (pl.getD q p0).2.2.2 := by rw [hr q hq]
  have p1 : A (1 + 1) p = (pl.getD p p0).1 := by rw [hr p hp]
  have p2 : A (1 + 2) p = (pl.getD p p0).2.1 := by rw [hr p hp]
  have p3 : A (1 + 3) p = (pl.getD p p0).2.2.1 := by rw [hr p hp]
  have p4 : A (1 + 4) p = (pl.getD p p0).2.2.2 := by rw [hr p hp]
  unfold f_X2_areSame same
  simp only [o_ck (show p < 32 by omega) (show 32 < 2147483648 by omega), o_ck (show q < 32 by omega) (show 32 < 2147483648 by omega), i_tnn (show p < 2147483648 by omega), i_tnn (show q < 2147483648 by omega), p1, p2, p3, p4, q1, q2, q3, q4, k1, k2, k3]
  by_cases c1 : (pl.getD q p0).1.toInt * (pl.getD p p0).2.2.2.toInt = (pl.getD p p0).1.toInt * (pl.getD q p0).2.2.2.toInt
  · rw [if_pos c1]
    by_cases c2 : (pl.getD q p0).2.1.toInt * (pl.getD p p0).2.2.2.toInt = (pl.getD p p0).2.1.toInt * (pl.getD q p0).2.2.2.toInt
    · rw [if_pos c2]
      by_cases c3 : (pl.getD q p0).2.2.1.toInt * (pl.getD p p0).2.2.2.toInt = (pl.getD p p0).2.2.1.toInt * (pl.getD q p0).2.2.2.toInt
      · rw [if_pos c3]; exact ⟨1, rfl, Or.inl ⟨rfl, c1, c2, c3⟩⟩
      · rw [if_neg c3]; exact ⟨0, rfl, Or.inr ⟨rfl, fun z => c3 z.2.2⟩⟩
    · rw [if_neg c2]; exact ⟨0, rfl, Or.inr ⟨rfl, fun z => c2 z.2.1⟩⟩
  · rw [if_neg c1]; exact ⟨0, rfl, Or.inr ⟨rfl, fun z => c1 z.1⟩⟩
theorem twin_l {A : Nat → Nat → Int32} {I : Nat → Int32} {L : Nat → Int64} {pl : List Pl} (hl : pl.length ≤ 32) (ho : ∀ p ∈ pl, okP p) (hr : ∀ j, j < pl.length → pl.getD j p0 = (A 2 j, A 3 j, A 4 j, A 5 j)) {p : Nat} (hp : p < pl.length) : ∀ (n q : Nat), q ≤ p → p - q < n → (∀ i, i < q → ¬ same (pl.getD i p0) (pl.getD p p0)) → ∃ c, f_X2_hasEarlierTwin_p2 1 I A L n (Int32.ofNat p) (Int32.ofNat q) = some c ∧ ((c = 0 ∧ ∀ i, i < p → ¬ same (pl.getD i p0) (pl.getD p p0)) ∨ (c = 1 ∧ ∃ i, i < p ∧ same (pl.getD i p0) (pl.getD p p0))) := by
  intro n
  induction n with
  | zero => intro q h1 h2; omega
  | succ n ih =>
    intro q h1 h2 h3
    rw [f_X2_hasEarlierTwin_p2_e]
    by_cases e : q = p
    · rw [if_pos (by rw [e]; exact o_le (by omega) (by omega) (by omega))]
      exact ⟨0, rfl, Or.inl ⟨rfl, fun i hi => h3 i (by omega)⟩⟩
    · rw [if_neg (o_nle (by omega) (by omega) (by omega))]
      obtain ⟨c, c1, c2⟩ := same_x (I := I) (L := L) hl ho hr (show q < pl.length by omega) hp
      rw [c1, bd_some]
      rcases c2 with ⟨rfl, c2⟩ | ⟨rfl, c2⟩
      · rw [if_neg (by decide)]
        exact ⟨1, rfl, Or.inr ⟨rfl, q, by omega, c2⟩⟩
      · rw [if_pos rfl, i_1]
        refine ih (q + 1) (by omega) (by omega) (fun i hi => ?_)
        by_cases e1 : i = q
        · rw [e1]; exact c2
        · exact h3 i (by omega)
noncomputable def sB (pl : List Pl) (vs : List Q4) (q : Nat) : Bool := @decide (shw pl vs q) (Classical.propDecidable _)
theorem sB_t {pl : List Pl} {vs : List Q4} {q : Nat} : sB pl vs q = true ↔ shw pl vs q := by
  unfold sB
  exact ⟨fun h => @of_decide_eq_true _ (Classical.propDecidable _) h, fun h => @decide_eq_true _ (Classical.propDecidable _) h⟩
theorem nOn_le (pl : List Pl) (vs : List Q4) (p : Nat) : nOn pl vs p ≤ vs.length := List.length_filter_le _ _
theorem sol_l {b : Nat} (hb38 : 38 ≤ b) {L : Nat → Int64} {pl : List Pl} {vs : List Q4} (h60 : vs.length ≤ 60) (hb : ∀ v ∈ vs, bQ v) (hl : pl.length ≤ 32) (ho : ∀ p ∈ pl, okP p) :
    ∀ (n p : Nat) (I : Nat → Int32) (A : Nat → Nat → Int32), p ≤ pl.length → pl.length - p < n → I (16 * 1 + 4) = Int32.ofNat pl.length → (∀ j, j < pl.length → pl.getD j p0 = (A 2 j, A 3 j, A 4 j, A 5 j)) → crX (I (16 * b + 7)) A b vs → (∀ j, j < vs.length → A (b + 5) j = onB pl (vs.getD j q0) p) → (∀ q, q < p → A (b + 6) q = Int32.ofNat (nOn pl vs q)) → I (16 * b + 8) = mk (sB pl vs) p →
    ∃ r5 r6, f_X4_look_p15 b 1 n (Int32.ofNat p) I A L = some (va_up I (16 * b + 8) (mk (sB pl vs) pl.length), va_up (va_up A (b + 5) r5) (b + 6) r6, L) ∧ (∀ j, j < vs.length → r5 j = onB pl (vs.getD j q0) pl.length) ∧ ∀ q, q < pl.length → r6 q = Int32.ofNat (nOn pl vs q) := by
  intro n
  induction n with
  | zero => intro p I A h1 h2; omega
  | succ n ih =>
    intro p I A h1 h2 h20 hr hx h5 h6 h8
    rw [f_X4_look_p15_e, h20]
    by_cases e : p = pl.length
    · rw [if_pos (by rw [e]; exact o_le (by omega) (by omega) (by omega))]
      refine ⟨A (b + 5), A (b + 6), ?_, fun j hj => by rw [h5 j hj, e], fun q hq => h6 q (by omega)⟩
      rw [uself, uself, ← e, ← h8, uself]
    · have hp : p < pl.length := by omega
      rw [if_neg (o_nle (by omega) (by omega) hp)]
      obtain ⟨row, a1, a2⟩ := mark_l hb38 (I := I) (L := L) h60 hb hp hl (ho _ (pD_in hp)) hx.1 4096 0 A (by omega) (by omega) hx.2 (hr p hp) (fun i hi => by omega) (fun i _ i2 => h5 i i2)
      have a1' : f_X4_markCornersOn b 1 (Int32.ofNat p) I A L = _ := a1
      rw [a1', b2_some, o_ck (by omega) (by omega), g_lt_eq, o_ck (by omega) (by omega), i_tnn (by omega), us, ds, i_1]
      have hnb := nOn_le pl vs p
      have k3 := b_lt (b_n (n := nOn pl vs p) (by omega)) (show bI 3 3 3 from b_n (n := 3) (by omega))
      -- what the next turn starts from
      have r16 : ∀ j, j < pl.length → pl.getD j p0 = (va_up (va_up A (b + 5) row) (b + 6) (upd (va_up A (b + 5) row (b + 6)) p (Int32.ofNat (nOn pl vs p))) 2 j, va_up (va_up A (b + 5) row) (b + 6) (upd (va_up A (b + 5) row (b + 6)) p (Int32.ofNat (nOn pl vs p))) 3 j, va_up (va_up A (b + 5) row) (b + 6) (upd (va_up A (b + 5) row (b + 6)) p (Int32.ofNat (nOn pl vs p))) 4 j, va_up (va_up A (b + 5) row) (b + 6) (upd (va_up A (b + 5) row (b + 6)) p (Int32.ofNat (nOn pl vs p))) 5 j) := fun j hj => by
        rw [un _ _ (by omega), un _ _ (by omega), un _ _ (by omega), un _ _ (by omega), un _ _ (by omega), un _ _ (by omega), un _ _ (by omega), un _ _ (by omega)]
        exact hr j hj
      have nxt : ∀ I' : Nat → Int32, (∀ i, i ≠ 16 * b + 8 → I' i = I i) → I' (16 * b + 8) = mk (sB pl vs) (p + 1) → ∃ r5 r6, f_X4_look_p15 b 1 n (Int32.ofNat (p + 1)) I' (va_up (va_up A (b + 5) row) (b + 6) (upd (va_up A (b + 5) row (b + 6)) p (Int32.ofNat (nOn pl vs p)))) L = some (va_up I (16 * b + 8) (mk (sB pl vs) pl.length), va_up (va_up A (b + 5) r5) (b + 6) r6, L) ∧ (∀ j, j < vs.length → r5 j = onB pl (vs.getD j q0) pl.length) ∧ ∀ q, q < pl.length → r6 q = Int32.ofNat (nOn pl vs q) := fun I' f1 f2 => by
        obtain ⟨r5, r6, b1, b2, b3⟩ := ih (p + 1) I' (va_up (va_up A (b + 5) row) (b + 6) (upd (va_up A (b + 5) row (b + 6)) p (Int32.ofNat (nOn pl vs p)))) (by omega) (by omega) (by rw [f1 _ (by omega)]; exact h20) r16 (by rw [f1 _ (by omega)]; exact crX_c hx (fun r r1 r2 => by rw [un _ _ (by omega), un _ _ (by omega)])) (fun j hj => by rw [un _ _ (by omega), us]; exact a2 j hj) (fun q hq => by
          rw [us]
          by_cases e1 : q = p
          · subst e1; rw [ds]
          · rw [dn _ _ e1, un _ _ (by omega)]; exact h6 q (by omega)) f2
        refine ⟨r5, r6, ?_, b2, b3⟩
        rw [b1]
        have eI : va_up I' (16 * b + 8) (mk (sB pl vs) pl.length) = va_up I (16 * b + 8) (mk (sB pl vs) pl.length) := by
          funext i
          by_cases c : i = 16 * b + 8
          · rw [c, us, us]
          · rw [un _ _ c, un _ _ c, f1 i c]
        have eA : va_up (va_up (va_up (va_up A (b + 5) row) (b + 6) (upd (va_up A (b + 5) row (b + 6)) p (Int32.ofNat (nOn pl vs p)))) (b + 5) r5) (b + 6) r6 = va_up (va_up A (b + 5) r5) (b + 6) r6 := by
          funext r
          by_cases c : r = b + 6
          · rw [c, us, us]
          · rw [un _ _ c, un _ _ c]
            by_cases c' : r = b + 5
            · rw [c', us, us]
            · rw [un _ _ c', un _ _ c', un _ _ c, un _ _ c']
        rw [eI, eA]
      by_cases c : nOn pl vs p < 3
      · rw [if_pos (k3.mpr (by omega))]
        refine nxt I (fun _ _ => rfl) ?_
        rw [h8, mk_s, if_neg (fun z => by have := (sB_t.mp z).1; omega)]
      · rw [if_neg (fun q => by have := k3.mp q; omega)]
        obtain ⟨t, t1, t2⟩ := twin_l (I := I) (L := L) hl ho r16 hp 4096 0 (by omega) (by omega) (fun i hi => by omega)
        have t1' : f_X2_hasEarlierTwin 1 I (va_up (va_up A (b + 5) row) (b + 6) (upd (va_up A (b + 5) row (b + 6)) p (Int32.ofNat (nOn pl vs p)))) L (Int32.ofNat p) = some t := t1
        rw [t1', bd_some]
        rcases t2 with ⟨rfl, t2⟩ | ⟨rfl, i, t2, t3⟩
        · rw [if_pos rfl, g_lt_eq]
          refine nxt _ (fun i hi => un _ _ hi) ?_
          rw [us, h8, mk_s, if_pos (sB_t.mpr ⟨by omega, t2⟩)]
        · rw [if_neg (by decide)]
          refine nxt I (fun _ _ => rfl) ?_
          rw [h8, mk_s, if_neg (fun z => (sB_t.mp z).2 i t2 t3)]
theorem sol_s {b : Nat} (hb38 : 38 ≤ b) {I : Nat → Int32} {A : Nat → Nat → Int32} {L : Nat → Int64} {pl : List Pl} {vs : List Q4} (h60 : vs.length ≤ 60) (hb : ∀ v ∈ vs, bQ v) (hl : pl.length ≤ 32) (ho : ∀ p ∈ pl, okP p) (hx : rpX (I 20) (A 2) (A 3) (A 4) (A 5) pl) (hc : crX (I (16 * b + 7)) A b vs) :
    ∃ r5 r6, f_X4_look b 1 I A L = some (va_up I (16 * b + 8) (mk (sB pl vs) pl.length), va_up (va_up A (b + 5) r5) (b + 6) r6, L) ∧ (∀ j, j < vs.length → r5 j = onB pl (vs.getD j q0) pl.length) ∧ ∀ q, q < pl.length → r6 q = Int32.ofNat (nOn pl vs q) := by
  unfold f_X4_look
  obtain ⟨row, a1, -, a2⟩ := fill60_l (b + 5) 4096 0 I A L (by omega) (by omega)
  have a1' : f_J7_fill_53178 (b + 5) 0 I A L = some (I, va_up A (b + 5) row, L) := a1
  rw [a1', b1_some, g_lt_eq]
  obtain ⟨r5, r6, b1, b2, b3⟩ := sol_l hb38 (L := L) h60 hb hl ho 4096 0 (va_up I (16 * b + 8) 0) (va_up A (b + 5) row) (by omega) (by omega) (by rw [un _ _ (by omega)]; exact hx.1) (fun j hj => by rw [un _ _ (by omega), un _ _ (by omega), un _ _ (by omega), un _ _ (by omega)]; exact hx.2 j hj) (by rw [un _ _ (by omega)]; exact crX_c hc (fun r r1 r2 => un _ _ (by omega))) (fun j hj => by rw [us]; exact a2 j (by omega) (by omega)) (fun q hq => by omega) (by rw [us]; rfl)
  have b1' : f_X4_look_p15 b 1 4096 0 (va_up I (16 * b + 8) 0) (va_up A (b + 5) row) L = _ := b1
  rw [b1', uu, uu]
  exact ⟨r5, r6, rfl, b2, b3⟩
