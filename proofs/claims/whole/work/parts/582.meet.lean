/-! the reference puts a corner -/
theorem m_5m (j : Nat) : Int32.ofNat (5 * (j + 1)) - 5 = Int32.ofNat (5 * j) := by
  rw [show 5 * (j + 1) = 5 * j + 5 by omega, Int32.ofNat_add]
  show Int32.ofNat (5 * j) + Int32.ofNat 5 - Int32.ofNat 5 = _
  rw [Int32.add_sub_cancel]
theorem s213_l (k186 : Int32 → Int32 → Int32 → Int32 → Int32 → Int32 → (Nat → Int32) → (Nat → Nat → Int32) → (Nat → Int64) → Option gS) {x5 x6 x7 x9 x10 : Int32} {j : Nat} (hj : j < 60) {I : Nat → Int32} {L : Nat → Int64} : ∀ (n a : Nat) (A : Nat → Nat → Int32), a ≤ 5 → 5 - a < n → ∃ row, f_X7_meeting_p213 k186 n x5 x6 x7 x9 x10 (Int32.ofNat (j + 1)) (Int32.ofNat a) I A L = k186 x5 x6 x7 x9 x10 (Int32.ofNat j) I (va_up A 65 row) L ∧ (∀ i, a ≤ i → i < 5 → row (5 * (j + 1) + i) = A 65 (5 * j + i)) ∧ ∀ t, (t < 5 * (j + 1) + a ∨ 5 * (j + 1) + 5 ≤ t) → row t = A 65 t := by
  intro n
  induction n with
  | zero => intro a A h1 h2; omega
  | succ n ih =>
    intro a A h1 h2
    rw [f_X7_meeting_p213_e]
    by_cases e : a = 5
    · rw [if_pos (by rw [e]; decide), o_pm]
      exact ⟨A 65, by rw [uself], fun i i1 i2 => by omega, fun _ _ => rfl⟩
    · rw [if_neg (show ¬ (5 : Int32) ≤ Int32.ofNat a from o_nle (a := 5) (by omega) (by omega) (by omega)), m_50, m_5m, o_add, o_add, o_ck (by omega) (by omega), o_ck (by omega) (by omega), g_lt_eq, i_tnn (by omega), i_tnn (by omega), i_1]
      obtain ⟨row, b1, b2, b3⟩ := ih (a + 1) (va_up A 65 (upd (A 65) (5 * (j + 1) + a) (A 65 (5 * j + a)))) (by omega) (by omega)
      refine ⟨row, by rw [b1, uu], fun i i1 i2 => ?_, fun t ht => ?_⟩
      · by_cases c : i = a
        · subst c
          rw [b3 _ (by omega), us, ds]
        · rw [b2 i (by omega) i2, us, dn _ _ (by omega)]
      · rw [b3 t (by omega), us, dn _ _ (by omega)]
def w5 (f : Nat → Int32) (j : Nat) (a b c d e : Int32) : Nat → Int32 := upd (upd (upd (upd (upd f (5 * j) a) (5 * j + 1) b) (5 * j + 2) c) (5 * j + 3) d) (5 * j + 4) e
theorem p257_s {x5 x6 x7 x9 x10 : Int32} {j : Nat} (hj : j < 60) (I : Nat → Int32) (A : Nat → Nat → Int32) (L : Nat → Int64) : f_X7_meeting_p257 x5 x6 x7 x9 x10 (Int32.ofNat j) I A L = some (va_up I 955 (I 955 + 1), va_up A 65 (w5 (A 65) j x5 x6 x7 x9 x10), L) := by
  unfold f_X7_meeting_p257
  rw [m_50, i_1, o_p2, o_p3, o_p4, o_ck (by omega) (by omega), g_lt_eq, o_ck (by omega) (by omega), g_lt_eq, o_ck (by omega) (by omega), g_lt_eq, o_ck (by omega) (by omega), g_lt_eq, o_ck (by omega) (by omega), g_lt_eq, g_lt_eq]
  simp only [us, uu, i_tnn (show 5 * j < 2147483648 by omega), i_tnn (show 5 * j + 1 < 2147483648 by omega), i_tnn (show 5 * j + 2 < 2147483648 by omega), i_tnn (show 5 * j + 3 < 2147483648 by omega), i_tnn (show 5 * j + 4 < 2147483648 by omega)]
  rfl
theorem okE_c {pl : List Pl} {f g : Nat → Int32} {i k : Nat} {v : Q4} (h : okE pl f i v) (e : ∀ a, a < 5 → g (5 * k + a) = f (5 * i + a)) : okE pl g k v := by
  obtain ⟨h1, h2⟩ := h
  have e0 : g (5 * k) = f (5 * i) := e 0 (by omega)
  refine ⟨?_, by rw [e 4 (by omega)]; exact h2⟩
  rw [h1]
  unfold rowM
  rw [e0, e 1 (by omega), e 2 (by omega), e 3 (by omega)]
theorem p186_l {pl : List Pl} {vs : List Q4} (h60 : vs.length < 60) (hs : vs.Pairwise ltQ) (hb : ∀ v ∈ vs, bQ v) (hrd : ∀ v ∈ vs, rdc v) {px py pz pd on : Int32} {w : Q4} (hw : bP px py pz pd w) (hwr : rdc w) (hon : on = onB pl w pl.length) (hnw : w ∉ vs) {I : Nat → Int32} {L : Nat → Int64} :
    ∀ (n j : Nat) (A : Nat → Nat → Int32), j ≤ vs.length → j < n → (∀ i, i < j → okE pl (A 65) i (vs.getD i q0)) → (∀ i, j < i → i ≤ vs.length → okE pl (A 65) i (vs.getD (i - 1) q0)) → (∀ i, j ≤ i → i < vs.length → ltQ w (vs.getD i q0)) →
    ∃ k row, f_X7_meeting_p186 n px py pz pd on (Int32.ofNat j) I A L = some (va_up I 955 (I 955 + 1), va_up A 65 row, L) ∧ (∀ i, i < vs.length + 1 → okE pl row i ((ins k w vs).getD i q0)) ∧ (ins k w vs).Pairwise ltQ := by
  intro n
  induction n with
  | zero => intro j A h1 h2; omega
  | succ n ih =>
    intro j A h1 h2 h3 h4 h5
    rw [f_X7_meeting_p186_e]
    have done : (∀ i, i < j → ltQ (vs.getD i q0) w) → ∃ k row, f_X7_meeting_p257 px py pz pd on (Int32.ofNat j) I A L = some (va_up I 955 (I 955 + 1), va_up A 65 row, L) ∧ (∀ i, i < vs.length + 1 → okE pl row i ((ins k w vs).getD i q0)) ∧ (ins k w vs).Pairwise ltQ := fun hlo => by
      refine ⟨j, _, p257_s (by omega) I A L, fun i hi => ?_, ins_s hs (fun i i1 _ => hlo i i1) h5⟩
      rw [ins_D h1]
      by_cases c1 : i < j
      · rw [if_pos c1]
        refine okE_c (h3 i c1) (fun a ha => ?_)
        unfold w5
        rw [dn _ _ (by omega), dn _ _ (by omega), dn _ _ (by omega), dn _ _ (by omega), dn _ _ (by omega)]
      · rw [if_neg c1]
        by_cases c2 : i = j
        · subst c2
          rw [if_pos rfl]
          refine ⟨?_, ?_⟩
          · unfold rowM w5
            rw [dn _ _ (by omega), dn _ _ (by omega), dn _ _ (by omega), dn _ _ (by omega), ds, dn _ _ (by omega), dn _ _ (by omega), dn _ _ (by omega), ds, dn _ _ (by omega), dn _ _ (by omega), ds, dn _ _ (by omega), ds, hw.1.1, hw.2.1.1, hw.2.2.1.1, hw.2.2.2.1]
          · unfold w5
            rw [ds, hon]
        · rw [if_neg c2]
          refine okE_c (h4 i (by omega) (by omega)) (fun a ha => ?_)
          unfold w5
          rw [dn _ _ (by omega), dn _ _ (by omega), dn _ _ (by omega), dn _ _ (by omega), dn _ _ (by omega)]
    by_cases c0 : j = 0
    · rw [if_pos (by rw [c0]; decide)]
      exact done (fun i hi => by omega)
    · obtain ⟨j, rfl⟩ : ∃ j', j = j' + 1 := ⟨j - 1, by omega⟩
      have hj : j < vs.length := by omega
      rw [if_neg (show ¬ Int32.ofNat (j + 1) ≤ (0 : Int32) from o_nle (b := 0) (by omega) (by omega) (by omega)), o_pred]
      obtain ⟨c, a1, a2⟩ := ahead_s (I := I) (L := L) (show j < 60 by omega) (h3 j (by omega)) (hb _ (vD_mem hj)) hw
      rw [a1, bd_some]
      rcases a2 with ⟨rfl, a2⟩ | ⟨rfl, a2⟩
      · rw [if_neg (by decide)]
        obtain ⟨row, b1, b2, b3⟩ := s213_l (f_X7_meeting_p186 n) (x5 := px) (x6 := py) (x7 := pz) (x9 := pd) (x10 := on) (show j < 60 by omega) (I := I) (L := L) 4096 0 A (by omega) (by omega)
        have b1' : f_X7_meeting_p213 (f_X7_meeting_p186 n) 4096 px py pz pd on (Int32.ofNat (j + 1)) 0 I A L = _ := b1
        rw [b1']
        obtain ⟨k, row2, d1, d2, d3⟩ := ih j (va_up A 65 row) (by omega) (by omega) (fun i hi => by
          rw [us]
          exact okE_c (h3 i (by omega)) (fun a ha => b3 _ (by omega))) (fun i i1 i2 => by
          rw [us]
          by_cases e : i = j + 1
          · subst e
            exact okE_c (h3 j (by omega)) (fun a ha => b2 a (by omega) ha)
          · exact okE_c (h4 i (by omega) i2) (fun a ha => b3 _ (by omega))) (fun i i1 i2 => by
          by_cases e : i = j
          · rw [e]; exact a2
          · exact h5 i (by omega) i2)
        exact ⟨k, row2, by rw [d1, uu], d2, d3⟩
      · rw [if_pos rfl]
        refine done (fun i hi => ?_)
        have hlt : ltQ (vs.getD j q0) w := by
          by_cases q : ltQ (vs.getD j q0) w
          · exact q
          · have := lt_tri (hrd _ (vD_mem hj)) hwr q a2
            exact absurd (by rw [← this]; exact vD_mem hj) hnw
        by_cases e : i = j
        · rw [e]; exact hlt
        · exact lt_tr (hb _ (vD_mem (show i < vs.length by omega))).1.1 (hb _ (vD_mem hj)).1.1 hwr.1 (srt_lt hs (by omega) hj) hlt
/-- the corners of the reference so far -/
def MS (I : Nat → Int32) (A : Nat → Nat → Int32) (pl : List Pl) (vs : List Q4) : Prop := crM (I 955) (A 65) pl vs ∧ vs.Pairwise ltQ ∧ ∀ v ∈ vs, isC pl v
theorem p98_l {pl : List Pl} (ok : okL pl) {vs : List Q4} {I : Nat → Int32} {A : Nat → Nat → Int32} {L : Nat → Int64} (hm : rpM (A 60) 0 pl) (hS : MS I A pl vs) {px py pz pd : Int32} {w : Q4} (hx : bI px w.1 1296000) (hy : bI py w.2.1 1296000) (hz : bI pz w.2.2.1 1296000) (hd : bI pd w.2.2.2 1296000) (hw : rdc w) (hC : (∀ r ∈ pl, sd r w ≤ 0) → isC pl w) :
    ∀ (n o : Nat), o ≤ pl.length → pl.length - o < n → (∀ i, i < o → sd (pl.getD i p0) w ≤ 0) → ∃ I' A' vs', f_X7_meeting_p98 n px py pz pd (onB pl w o) (Int32.ofNat o) I A L = some (I', A', L) ∧ MS I' A' pl vs' ∧ (∀ i, i ≠ 955 → I' i = I i) ∧ (∀ r, r ≠ 65 → A' r = A r) ∧ (∀ v ∈ vs, v ∈ vs') ∧ (isC pl w → w ∈ vs') := by
  have hl := ok.2.1
  have h60 : vs.length ≤ 60 := sixty hl (srt_nd hS.2.1) hS.2.2
  intro n
  induction n with
  | zero => intro o h1 h2; omega
  | succ n ih =>
    intro o h1 h2 h3
    rw [f_X7_meeting_p98_e, m_c0, show A 60 (Int32.toNatClampNeg 0) = Int32.ofNat pl.length from hm.1]
    by_cases e : o = pl.length
    · rw [if_pos (by rw [e]; exact o_le (by omega) (by omega) (by omega))]
      have hall : ∀ r ∈ pl, sd r w ≤ 0 := fun r hr => by
        obtain ⟨i, hi, q⟩ := pD_ex hr
        rw [← q]; exact h3 i (by omega)
      have hwC := hC hall
      have bq := isC_bQ (okL_Bx ok) hwC
      have hbP : bP px py pz pd w := ⟨⟨hx.1, bq.2.1⟩, ⟨hy.1, bq.2.2.1⟩, ⟨hz.1, bq.2.2.2⟩, ⟨hd.1, by have := bq.1; omega⟩⟩
      obtain ⟨c, a1, a2⟩ := isCor_s (I := I) (L := L) h60 hS.1 (px := px) (py := py) (pz := pz) (pd := pd) (v := w) (by rw [hx.1, hy.1, hz.1, hd.1])
      rw [a1, bd_some]
      rcases a2 with ⟨rfl, a2⟩ | ⟨rfl, a2⟩
      · rw [if_neg (by decide)]
        exact ⟨I, A, vs, rfl, hS, fun _ _ => rfl, fun _ _ => rfl, fun v h => h, fun _ => a2⟩
      · rw [if_pos rfl, hS.1.1]
        have h60' : vs.length < 60 := by
          have hn : (w :: vs).Nodup := List.nodup_cons.mpr ⟨a2, srt_nd hS.2.1⟩
          have := sixty hl hn (fun v hv => by
            rcases List.mem_cons.mp hv with q | q
            · rw [q]; exact hwC
            · exact hS.2.2 v q)
          rw [List.length_cons] at this
          omega
        obtain ⟨k, row, b1, b2, b3⟩ := p186_l (pl := pl) (on := onB pl w o) h60' hS.2.1 (fun v hv => isC_bQ (okL_Bx ok) (hS.2.2 v hv)) (fun v hv => (hS.2.2 v hv).1) hbP hw (by rw [e]) a2 (I := I) (L := L) 4096 vs.length A (by omega) (by omega) hS.1.2 (fun i i1 i2 => by omega) (fun i i1 i2 => by omega)
        rw [b1]
        refine ⟨_, _, ins k w vs, rfl, ⟨⟨?_, fun j hj => ?_⟩, b3, fun v hv => ?_⟩, fun i hi => un _ _ hi, fun r hr => un _ _ hr, fun v hv => ins_mem.mpr (Or.inr hv), fun _ => ins_mem.mpr (Or.inl rfl)⟩
        · rw [us, hS.1.1, i_1, ins_len]
        · rw [us]
          rw [ins_len] at hj
          exact b2 j hj
        · rcases ins_mem.mp hv with q | q
          · rw [q]; exact hwC
          · exact hS.2.2 v q
    · have ho : o < pl.length := by omega
      rw [if_neg (o_nle (by omega) (by omega) ho)]
      obtain ⟨o1, o2, o3, o4⟩ := okP_b (ok.2.2.1 _ (pD_in ho))
      have g0 : f_X7_get I A L (Int32.ofNat o) 0 = some (pl.getD o p0).1 := get_s (c := 0) hm hl ho (by omega)
      have g1 : f_X7_get I A L (Int32.ofNat o) 1 = some (pl.getD o p0).2.1 := get_s (c := 1) hm hl ho (by omega)
      have g2 : f_X7_get I A L (Int32.ofNat o) 2 = some (pl.getD o p0).2.2.1 := get_s (c := 2) hm hl ho (by omega)
      have g3 : f_X7_get I A L (Int32.ofNat o) 3 = some (pl.getD o p0).2.2.2 := get_s (c := 3) hm hl ho (by omega)
      have far : f_X7_far I A L (Int32.ofNat o) px py pz = some (((pl.getD o p0).1 * px + (pl.getD o p0).2.1 * py) + (pl.getD o p0).2.2.1 * pz) := by
        unfold f_X7_far
        rw [g0, bd_some, g1, bd_some, g2, bd_some]
      have hs := b_sub (b_add (b_add (b_mul o1 hx (by decide)) (b_mul o2 hy (by decide)) (by decide)) (b_mul o3 hz (by decide)) (by decide)) (b_mul o4 hd (by decide)) (by decide)
      rw [far, bd_some, g3, bd_some, g_lt_eq, i_1]
      have hs' : bI ((((pl.getD o p0).1 * px + (pl.getD o p0).2.1 * py) + (pl.getD o p0).2.2.1 * pz) - (pl.getD o p0).2.2.2 * pd) (sd (pl.getD o p0) w) _ := hs
      have k1 := b_le hs' b_0
      have k2 := b_eq hs' b_0
      by_cases c1 : sd (pl.getD o p0) w ≤ 0
      · rw [if_pos (k1.mpr c1)]
        have h3' : ∀ i, i < o + 1 → sd (pl.getD i p0) w ≤ 0 := fun i hi => by
          by_cases q : i = o
          · rw [q]; exact c1
          · exact h3 i (by omega)
        by_cases c2 : sd (pl.getD o p0) w = 0
        · rw [if_pos (k2.mpr c2), g_lt_eq]
          have := ih (o + 1) (by omega) (by omega) h3'
          rw [onB_s, if_pos c2] at this
          exact this
        · rw [if_neg (fun q => c2 (k2.mp q)), Int32.or_zero]
          have := ih (o + 1) (by omega) (by omega) h3'
          rw [onB_s, if_neg c2] at this
          exact this
      · rw [if_neg (fun q => c1 (k1.mp q))]
        exact ⟨I, A, vs, rfl, hS, fun _ _ => rfl, fun _ _ => rfl, fun v h => h, fun h => absurd (h.2.1 _ (pD_in ho)) c1⟩
theorem b_quo2 {x y : Int32} {m w : Int} {B C : Nat} (h : bI x (m * w) B) (k : bI y m C) (hm : m ≠ 0) (hB : B < 2147483648) : bI (x / y) w B := by
  have q := b_div h k hB
  rw [Int.mul_tdiv_cancel_left w hm] at q
  exact q
theorem g4_neg (v : Q4) : g4 (scl (-1) v) = g4 v := by
  unfold g4 scl
  simp only [Int.natAbs_mul, Int.natAbs_neg, Int.natAbs_one, Nat.one_mul]
theorem meet_s {pl : List Pl} (ok : okL pl) {vs : List Q4} {I : Nat → Int32} {A : Nat → Nat → Int32} {L : Nat → Int64} (hm : rpM (A 60) 0 pl) (hS : MS I A pl vs) {p q r : Nat} (hp : p < pl.length) (hq : q < pl.length) (hr : r < pl.length) {d : Int32} (hd : bI d (dt3 (pl.getD p p0) (pl.getD q p0) (pl.getD r p0)) 1296000) (hd0 : dt3 (pl.getD p p0) (pl.getD q p0) (pl.getD r p0) ≠ 0) :
    ∃ I' A' vs', f_X7_meeting (Int32.ofNat p) (Int32.ofNat q) (Int32.ofNat r) d I A L = some (I', A', L) ∧ MS I' A' pl vs' ∧ (∀ i, i ≠ 955 → I' i = I i) ∧ (∀ r, r ≠ 65 → A' r = A r) ∧ (∀ v ∈ vs, v ∈ vs') ∧ ∀ v, isC pl v → sd (pl.getD p p0) v = 0 → sd (pl.getD q p0) v = 0 → sd (pl.getD r p0) v = 0 → v ∈ vs' := by
  obtain ⟨⟨X, x1, x2⟩, ⟨Y, y1, y2⟩, ⟨Z, z1, z2⟩, -⟩ := det_s (I := I) (L := L) hm ok.2.1 ok.2.2.1 hp hq hr
  have hP := pD_in hp
  have hQ := pD_in hq
  have hR := pD_in hr
  generalize pl.getD p p0 = P at *
  generalize pl.getD q p0 = Q at *
  generalize pl.getD r p0 = R at *
  unfold f_X7_meeting
  rw [x1, bd_some, y1, bd_some, z1, bd_some, g4_m I A L (v := mt P Q R) x2 y2 z2 hd (by decide)]
  obtain ⟨m1, m2⟩ := mtp_d hd0
  obtain ⟨w, w1, w2, w3⟩ := low4 m1
  obtain ⟨t1, t2, t3⟩ := mtp_0 P Q R
  have hg := g4_bd (v := mt P Q R) x2.2 y2.2 z2.2 hd.2
  have eg : g4 (mtp P Q R) = g4 (mt P Q R) := by
    unfold mtp
    by_cases c : 0 < dt3 P Q R
    · rw [if_pos c]
    · rw [if_neg c, g4_neg]
  rw [eg] at w1 w2
  generalize g4 (mt P Q R) = g at *
  have z0 : ∀ s : Pl, sd s (mtp P Q R) = 0 → sd s w = 0 := fun s hs => by
    rw [w2, sd_scl] at hs
    rcases Int.mul_eq_zero.mp hs with y | y
    · omega
    · exact y
  have hC : (∀ r ∈ pl, sd r w ≤ 0) → isC pl w := fun h => ⟨w3, h, P, hP, Q, hQ, R, hR, hd0, z0 P t1, z0 Q t2, z0 R t3⟩
  have only : ∀ v, isC pl v → sd P v = 0 → sd Q v = 0 → sd R v = 0 → v = w := fun v hv e1 e2 e3 => crn_u hv.1 w3 hd0 e1 e2 e3 (z0 P t1) (z0 Q t2) (z0 R t3)
  have fin : ∀ (s : Int32) (m : Int) (C : Nat), bI s m C → m ≠ 0 → mt P Q R = scl m w → ∃ I' A' vs', f_X7_meeting_p62 d X Y Z s I A L = some (I', A', L) ∧ MS I' A' pl vs' ∧ (∀ i, i ≠ 955 → I' i = I i) ∧ (∀ r, r ≠ 65 → A' r = A r) ∧ (∀ v ∈ vs, v ∈ vs') ∧ ∀ v, isC pl v → sd P v = 0 → sd Q v = 0 → sd R v = 0 → v ∈ vs' := fun s m C hs hm0 em => by
    unfold f_X7_meeting_p62
    rw [b_dv hs hm0, b_dv hs hm0, b_dv hs hm0, b_dv hs hm0]
    obtain ⟨I', A', vs', a1, a2, a3, a4, a5, a6⟩ := p98_l ok (L := L) hm hS (w := w) (b_quo2 (b_c x2 (congrArg (fun x : Q4 => x.1) em)) hs hm0 (by decide)) (b_quo2 (b_c y2 (congrArg (fun x : Q4 => x.2.1) em)) hs hm0 (by decide)) (b_quo2 (b_c z2 (congrArg (fun x : Q4 => x.2.2.1) em)) hs hm0 (by decide)) (b_quo2 (b_c hd (congrArg (fun x : Q4 => x.2.2.2) em)) hs hm0 (by decide)) w3 hC 4096 0 (by omega) (by have := ok.2.1; omega) (fun i hi => by omega)
    refine ⟨I', A', vs', a1, a2, a3, a4, a5, fun v hv e1 e2 e3 => ?_⟩
    have ew := only v hv e1 e2 e3
    rw [ew] at hv ⊢
    exact a6 hv
  have k := b_le b_0 hd
  unfold mtp at w2
  by_cases c : 0 ≤ dt3 P Q R
  · rw [if_pos (k.mpr c)]
    rw [if_pos (by omega)] at w2
    exact fin _ (g : Int) _ (b_n (by omega)) (by omega) w2
  · rw [if_neg (fun q => c (k.mp q))]
    rw [if_neg (by omega)] at w2
    refine fin _ (-(g : Int)) _ (b_neg (b_n (n := g) (by omega)) (by omega)) (by omega) ?_
    simp only [scl, mt, Prod.mk.injEq] at w2 ⊢
    obtain ⟨u1, u2, u3, u4⟩ := w2
    refine ⟨?_, ?_, ?_, ?_⟩
    · rw [Int.neg_mul]; omega
    · rw [Int.neg_mul]; omega
    · rw [Int.neg_mul]; omega
    · rw [Int.neg_mul]; omega
