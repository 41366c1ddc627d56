/-! lays: over all threes -/
def D3 (pl : List Pl) (p q r : Nat) (vs : List Q4) : Prop := ∀ p' q' r', p' < q' → q' < r' → r' < pl.length → (p' < p ∨ (p' = p ∧ (q' < q ∨ (q' = q ∧ r' < r)))) → dt3 (pl.getD p' p0) (pl.getD q' p0) (pl.getD r' p0) ≠ 0 → ∀ v, isC pl v → sd (pl.getD p' p0) v = 0 → sd (pl.getD q' p0) v = 0 → sd (pl.getD r' p0) v = 0 → v ∈ vs
def FI5 (I I' : Nat → Int32) : Prop := ∀ i, i ≠ 955 → I' i = I i
def FA5 (A A' : Nat → Nat → Int32) : Prop := ∀ r, r ≠ 65 → A' r = A r
theorem l35_l {pl : List Pl} (ok : okL pl) {L : Nat → Int64} {p q : Nat} (hpq : p < q) (hq : q < pl.length) (k7 : Int32 → (Nat → Int32) → (Nat → Nat → Int32) → (Nat → Int64) → Option gS) (k21 : Int32 → Int32 → (Nat → Int32) → (Nat → Nat → Int32) → (Nat → Int64) → Option gS) :
    ∀ (n r : Nat) (I : Nat → Int32) (A : Nat → Nat → Int32) (vs : List Q4), r ≤ pl.length → pl.length - r < n → q < r → rpM (A 60) 0 pl → MS I A pl vs → D3 pl p q r vs →
    ∃ I' A' vs', f_X7_lays_p35 k7 k21 n (Int32.ofNat p) (Int32.ofNat q) (Int32.ofNat r) I A L = k21 (Int32.ofNat p) (Int32.ofNat (q + 1)) I' A' L ∧ MS I' A' pl vs' ∧ FI5 I I' ∧ FA5 A A' ∧ D3 pl p q pl.length vs' := by
  have hl := ok.2.1
  intro n
  induction n with
  | zero => intro r I A vs h1 h2; omega
  | succ n ih =>
    intro r I A vs h1 h2 h3 hm hS hD
    rw [f_X7_lays_p35_e, m_c0, show A 60 (Int32.toNatClampNeg 0) = Int32.ofNat pl.length from hm.1]
    by_cases e : r = pl.length
    · rw [if_pos (by rw [e]; exact o_le (by omega) (by omega) (by omega)), i_1]
      rw [e] at hD
      exact ⟨I, A, vs, rfl, hS, fun _ _ => rfl, fun _ _ => rfl, hD⟩
    · have hr : r < pl.length := by omega
      rw [if_neg (o_nle (by omega) (by omega) hr)]
      obtain ⟨-, -, -, D, d1, d2⟩ := det_s (I := I) (L := L) hm hl ok.2.2.1 (show p < pl.length by omega) hq hr
      rw [d1, bd_some, i_1]
      have k := b_eq d2 b_0
      by_cases c : dt3 (pl.getD p p0) (pl.getD q p0) (pl.getD r p0) = 0
      · rw [if_pos (k.mpr c)]
        refine ih (r + 1) I A vs (by omega) (by omega) (by omega) hm hS (fun p' q' r' x1 x2 x3 x4 x5 => ?_)
        by_cases z : p' = p ∧ q' = q ∧ r' = r
        · obtain ⟨rfl, rfl, rfl⟩ := z
          exact absurd c x5
        · exact hD p' q' r' x1 x2 x3 (by omega) x5
      · rw [if_neg (fun z => c (k.mp z))]
        obtain ⟨I1, A1, vs1, a1, a2, a3, a4, a5, a6⟩ := meet_s ok (L := L) hm hS (show p < pl.length by omega) hq hr d2 c
        rw [a1, b1_some]
        obtain ⟨I2, A2, vs2, b1, b2, b3, b4, b5⟩ := ih (r + 1) I1 A1 vs1 (by omega) (by omega) (by omega) (by rw [a4 60 (by omega)]; exact hm) a2 (fun p' q' r' x1 x2 x3 x4 x5 v hv e1 e2 e3 => by
          by_cases z : p' = p ∧ q' = q ∧ r' = r
          · obtain ⟨rfl, rfl, rfl⟩ := z
            exact a6 v hv e1 e2 e3
          · exact a5 v (hD p' q' r' x1 x2 x3 (by omega) x5 v hv e1 e2 e3))
        exact ⟨I2, A2, vs2, b1, b2, fun i hi => by rw [b3 i hi, a3 i hi], fun r hr => by rw [b4 r hr, a4 r hr], b5⟩
theorem l21_l {pl : List Pl} (ok : okL pl) {L : Nat → Int64} {p : Nat} (hp : p < pl.length) (k7 : Int32 → (Nat → Int32) → (Nat → Nat → Int32) → (Nat → Int64) → Option gS) :
    ∀ (n q : Nat) (I : Nat → Int32) (A : Nat → Nat → Int32) (vs : List Q4), q ≤ pl.length → pl.length - q < n → p < q → rpM (A 60) 0 pl → MS I A pl vs → D3 pl p q 0 vs →
    ∃ I' A' vs', f_X7_lays_p21 k7 n (Int32.ofNat p) (Int32.ofNat q) I A L = k7 (Int32.ofNat (p + 1)) I' A' L ∧ MS I' A' pl vs' ∧ FI5 I I' ∧ FA5 A A' ∧ D3 pl p pl.length 0 vs' := by
  have hl := ok.2.1
  intro n
  induction n with
  | zero => intro q I A vs h1 h2; omega
  | succ n ih =>
    intro q I A vs h1 h2 h3 hm hS hD
    rw [f_X7_lays_p21_e, m_c0, show A 60 (Int32.toNatClampNeg 0) = Int32.ofNat pl.length from hm.1]
    by_cases e : q = pl.length
    · rw [if_pos (by rw [e]; exact o_le (by omega) (by omega) (by omega)), i_1]
      rw [e] at hD
      exact ⟨I, A, vs, rfl, hS, fun _ _ => rfl, fun _ _ => rfl, hD⟩
    · have hq : q < pl.length := by omega
      rw [if_neg (o_nle (by omega) (by omega) hq), i_1]
      obtain ⟨I1, A1, vs1, a1, a2, a3, a4, a5⟩ := l35_l ok (L := L) h3 hq k7 (f_X7_lays_p21 k7 n) 4096 (q + 1) I A vs (by omega) (by omega) (by omega) hm hS (fun p' q' r' x1 x2 x3 x4 => hD p' q' r' x1 x2 x3 (by omega))
      rw [a1]
      obtain ⟨I2, A2, vs2, b1, b2, b3, b4, b5⟩ := ih (q + 1) I1 A1 vs1 (by omega) (by omega) (by omega) (by rw [a4 60 (by omega)]; exact hm) a2 (fun p' q' r' x1 x2 x3 x4 => a5 p' q' r' x1 x2 x3 (by omega))
      exact ⟨I2, A2, vs2, b1, b2, fun i hi => by rw [b3 i hi, a3 i hi], fun r hr => by rw [b4 r hr, a4 r hr], b5⟩
theorem l7_l {pl : List Pl} (ok : okL pl) {L : Nat → Int64} :
    ∀ (n p : Nat) (I : Nat → Int32) (A : Nat → Nat → Int32) (vs : List Q4), p ≤ pl.length → pl.length - p < n → rpM (A 60) 0 pl → MS I A pl vs → D3 pl p 0 0 vs →
    ∃ I' A' vs', f_X7_lays_p7 n (Int32.ofNat p) I A L = f_X7_lays_p89 4096 0 I' A' L ∧ MS I' A' pl vs' ∧ FI5 I I' ∧ FA5 A A' ∧ D3 pl pl.length 0 0 vs' := by
  have hl := ok.2.1
  intro n
  induction n with
  | zero => intro p I A vs h1 h2; omega
  | succ n ih =>
    intro p I A vs h1 h2 hm hS hD
    rw [f_X7_lays_p7_e, m_c0, show A 60 (Int32.toNatClampNeg 0) = Int32.ofNat pl.length from hm.1]
    by_cases e : p = pl.length
    · rw [if_pos (by rw [e]; exact o_le (by omega) (by omega) (by omega))]
      rw [e] at hD
      exact ⟨I, A, vs, rfl, hS, fun _ _ => rfl, fun _ _ => rfl, hD⟩
    · have hp : p < pl.length := by omega
      rw [if_neg (o_nle (by omega) (by omega) hp), i_1]
      obtain ⟨I1, A1, vs1, a1, a2, a3, a4, a5⟩ := l21_l ok (L := L) hp (f_X7_lays_p7 n) 4096 (p + 1) I A vs (by omega) (by omega) (by omega) hm hS (fun p' q' r' x1 x2 x3 x4 => hD p' q' r' x1 x2 x3 (by omega))
      rw [a1]
      obtain ⟨I2, A2, vs2, b1, b2, b3, b4, b5⟩ := ih (p + 1) I1 A1 vs1 (by omega) (by omega) (by rw [a4 60 (by omega)]; exact hm) a2 (fun p' q' r' x1 x2 x3 x4 => a5 p' q' r' x1 x2 x3 (by omega))
      exact ⟨I2, A2, vs2, b1, b2, fun i hi => by rw [b3 i hi, a3 i hi], fun r hr => by rw [b4 r hr, a4 r hr], b5⟩
theorem D3_all {pl : List Pl} {vs : List Q4} (hD : D3 pl pl.length 0 0 vs) {v : Q4} (hv : isC pl v) : v ∈ vs := by
  obtain ⟨-, -, p, hp, q, hq, r, hr, hd, ep, eq, er⟩ := id hv
  obtain ⟨i, hi, rfl⟩ := pD_ex hp
  obtain ⟨j, hj, rfl⟩ := pD_ex hq
  obtain ⟨k, hk, rfl⟩ := pD_ex hr
  have n1 : i ≠ j := fun e => by rw [e, dt3_12] at hd; exact hd rfl
  have n2 : i ≠ k := fun e => by rw [e, dt3_13] at hd; exact hd rfl
  have n3 : j ≠ k := fun e => by rw [e, dt3_23] at hd; exact hd rfl
  have r1 : dt3 (pl.getD j p0) (pl.getD k p0) (pl.getD i p0) ≠ 0 := by rw [dt3_rot]; exact hd
  have r2 : dt3 (pl.getD k p0) (pl.getD i p0) (pl.getD j p0) ≠ 0 := by rw [dt3_rot]; exact r1
  have sw : ∀ a b c : Pl, dt3 a b c ≠ 0 → dt3 b a c ≠ 0 := fun a b c h z => h (by rw [dt3_sw] at z; omega)
  rcases (show (i < j ∧ j < k) ∨ (i < k ∧ k < j) ∨ (j < i ∧ i < k) ∨ (j < k ∧ k < i) ∨ (k < i ∧ i < j) ∨ (k < j ∧ j < i) by omega) with c | c | c | c | c | c
  · exact hD i j k c.1 c.2 hk (Or.inl hi) hd v hv ep eq er
  · exact hD i k j c.1 c.2 hj (Or.inl hi) (sw _ _ _ r2) v hv ep er eq
  · exact hD j i k c.1 c.2 hk (Or.inl hj) (sw _ _ _ hd) v hv eq ep er
  · exact hD j k i c.1 c.2 hi (Or.inl hj) r1 v hv eq er ep
  · exact hD k i j c.1 c.2 hj (Or.inl hk) r2 v hv er ep eq
  · exact hD k j i c.1 c.2 hi (Or.inl hk) (sw _ _ _ r1) v hv er eq ep
/-! which planes show -/
theorem isOn_s {I : Nat → Int32} {A : Nat → Nat → Int32} {L : Nat → Int64} {pl : List Pl} (hl : pl.length ≤ 32) {j : Nat} (hj : j < 60) {v : Q4} (hE : okE pl (A 65) j v) {p : Nat} (hp : p < pl.length) : ∃ c, f_X7_isOn I A L (Int32.ofNat j) (Int32.ofNat p) = some c ∧ ((c = 1 ∧ sd (pl.getD p p0) v = 0) ∨ (c = 0 ∧ ¬ sd (pl.getD p p0) v = 0)) := by
  unfold f_X7_isOn
  rw [m_54, o_ck (by omega) (by omega), i_tnn (by omega), hE.2]
  have k := sar_1 (onB pl v pl.length) (show p < 32 by omega)
  rw [onB_bt pl v hl hp] at k
  by_cases c : sd (pl.getD p p0) v = 0
  · rw [if_pos (k.mpr c)]; exact ⟨1, rfl, Or.inl ⟨rfl, c⟩⟩
  · rw [if_neg (fun q => c (k.mp q))]; exact ⟨0, rfl, Or.inr ⟨rfl, c⟩⟩
theorem x_p0 (x : Int32) : x + 0 = x := Int32.add_zero x
theorem cOn_l {I : Nat → Int32} {A : Nat → Nat → Int32} {L : Nat → Int64} {pl : List Pl} {vs : List Q4} (hl : pl.length ≤ 32) (h60 : vs.length ≤ 60) (hc : crM (I 955) (A 65) pl vs) {p : Nat} (hp : p < pl.length) : ∀ (n j : Nat), j ≤ vs.length → vs.length - j < n → f_X7_cornersOn_p4 I A L n (Int32.ofNat p) (Int32.ofNat (sm j (fun i => ib (sd (pl.getD p p0) (vs.getD i q0) = 0)))) (Int32.ofNat j) = some (Int32.ofNat (nOn pl vs p)) := by
  intro n
  induction n with
  | zero => intro j h1 h2; omega
  | succ n ih =>
    intro j h1 h2
    rw [f_X7_cornersOn_p4_e, hc.1]
    by_cases e : j = vs.length
    · rw [if_pos (by rw [e]; exact o_le (by omega) (by omega) (by omega)), e, nOn_E, nOE_sm]
    · have hj : j < vs.length := by omega
      rw [if_neg (o_nle (by omega) (by omega) hj)]
      obtain ⟨c, c1, c2⟩ := isOn_s (I := I) (L := L) hl (show j < 60 by omega) (hc.2 j hj) hp
      rw [c1, bd_some, i_1, i_1, x_p0]
      have t := ih (j + 1) (by omega) (by omega)
      rw [sm_s] at t
      rcases c2 with ⟨rfl, c2⟩ | ⟨rfl, c2⟩
      · rw [if_neg (by decide)]
        rw [ib_1 c2] at t
        exact t
      · rw [if_pos rfl]
        rw [ib_0 c2] at t
        exact t
theorem cOn_s {I : Nat → Int32} {A : Nat → Nat → Int32} {L : Nat → Int64} {pl : List Pl} {vs : List Q4} (hl : pl.length ≤ 32) (h60 : vs.length ≤ 60) (hc : crM (I 955) (A 65) pl vs) {p : Nat} (hp : p < pl.length) : f_X7_cornersOn I A L (Int32.ofNat p) = some (Int32.ofNat (nOn pl vs p)) := cOn_l hl h60 hc hp 4096 0 (by omega) (by omega)
theorem isSame_s {I : Nat → Int32} {A : Nat → Nat → Int32} {L : Nat → Int64} {pl : List Pl} (hl : pl.length ≤ 32) (ho : ∀ p ∈ pl, okP p) (hm : rpM (A 60) 0 pl) {p q : Nat} (hp : p < pl.length) (hq : q < pl.length) : ∃ c, f_X7_isSame I A L (Int32.ofNat p) (Int32.ofNat q) = some c ∧ ((c = 1 ∧ same (pl.getD p p0) (pl.getD q p0)) ∨ (c = 0 ∧ ¬ same (pl.getD p p0) (pl.getD q p0))) := by
  obtain ⟨a1, a2, a3, a4⟩ := okP_b (ho _ (pD_in hp))
  obtain ⟨b1, b2, b3, b4⟩ := okP_b (ho _ (pD_in hq))
  have k1 := b_eq (b_mul a1 b4 (by decide)) (b_mul b1 a4 (by decide))
  have k2 := b_eq (b_mul a2 b4 (by decide)) (b_mul b2 a4 (by decide))
  have k3 := b_eq (b_mul a3 b4 (by decide)) (b_mul b3 a4 (by decide))
  have g0 : ∀ p, p < pl.length → f_X7_get I A L (Int32.ofNat p) 0 = some (pl.getD p p0).1 := fun p hp => get_s (c := 0) hm hl hp (by omega)
  have g1 : ∀ p, p < pl.length → f_X7_get I A L (Int32.ofNat p) 1 = some (pl.getD p p0).2.1 := fun p hp => get_s (c := 1) hm hl hp (by omega)
  have g2 : ∀ p, p < pl.length → f_X7_get I A L (Int32.ofNat p) 2 = some (pl.getD p p0).2.2.1 := fun p hp => get_s (c := 2) hm hl hp (by omega)
  have g3 : ∀ p, p < pl.length → f_X7_get I A L (Int32.ofNat p) 3 = some (pl.getD p p0).2.2.2 := fun p hp => get_s (c := 3) hm hl hp (by omega)
  have z0 : ∀ (n : Nat) (a b : Int32), f_X7_isSame_p5 I A L (n + 1) a b 0 3 = some 0 := fun n a b => by rw [f_X7_isSame_p5_e, if_pos (by decide)]; rfl
  have z1 : ∀ (n : Nat) (a b : Int32), f_X7_isSame_p5 I A L (n + 1) a b 1 3 = some 1 := fun n a b => by rw [f_X7_isSame_p5_e, if_pos (by decide)]; rfl
  have z02 : ∀ (n : Nat) (a b : Int32), f_X7_isSame_p5 I A L (n + 2) a b 0 2 = some 0 := fun n a b => by
    rw [f_X7_isSame_p5_e, if_neg (by decide), if_pos rfl]
    exact z0 n a b
  have z01 : ∀ (n : Nat) (a b : Int32), f_X7_isSame_p5 I A L (n + 3) a b 0 1 = some 0 := fun n a b => by
    rw [f_X7_isSame_p5_e, if_neg (by decide), if_pos rfl]
    exact z02 n a b
  unfold f_X7_isSame same
  rw [f_X7_isSame_p5_e, if_neg (by decide), if_neg (by decide), g0 p hp, bd_some, g3 q hq, bd_some, g0 q hq, bd_some, g3 p hp, bd_some]
  by_cases c1 : (pl.getD p p0).1.toInt * (pl.getD q p0).2.2.2.toInt = (pl.getD q p0).1.toInt * (pl.getD p p0).2.2.2.toInt
  · rw [if_pos (k1.mpr c1), show (0 : Int32) + 1 = 1 from rfl, f_X7_isSame_p5_e, if_neg (by decide), if_neg (by decide), g1 p hp, bd_some, g3 q hq, bd_some, g1 q hq, bd_some, g3 p hp, bd_some]
    by_cases c2 : (pl.getD p p0).2.1.toInt * (pl.getD q p0).2.2.2.toInt = (pl.getD q p0).2.1.toInt * (pl.getD p p0).2.2.2.toInt
    · rw [if_pos (k2.mpr c2), show (1 : Int32) + 1 = 2 from rfl, f_X7_isSame_p5_e, if_neg (by decide), if_neg (by decide), g2 p hp, bd_some, g3 q hq, bd_some, g2 q hq, bd_some, g3 p hp, bd_some, show (2 : Int32) + 1 = 3 from rfl]
      by_cases c3 : (pl.getD p p0).2.2.1.toInt * (pl.getD q p0).2.2.2.toInt = (pl.getD q p0).2.2.1.toInt * (pl.getD p p0).2.2.2.toInt
      · rw [if_pos (k3.mpr c3), z1]; exact ⟨1, rfl, Or.inl ⟨rfl, c1, c2, c3⟩⟩
      · rw [if_neg (fun q => c3 (k3.mp q)), z0]; exact ⟨0, rfl, Or.inr ⟨rfl, fun z => c3 z.2.2⟩⟩
    · rw [if_neg (fun q => c2 (k2.mp q)), show (1 : Int32) + 1 = 2 from rfl, z02]; exact ⟨0, rfl, Or.inr ⟨rfl, fun z => c2 z.2.1⟩⟩
  · rw [if_neg (fun q => c1 (k1.mp q)), show (0 : Int32) + 1 = 1 from rfl, z01]; exact ⟨0, rfl, Or.inr ⟨rfl, fun z => c1 z.1⟩⟩
theorem l121_l {pl : List Pl} (hl : pl.length ≤ 32) (ho : ∀ p ∈ pl, okP p) {vs : List Q4} {I : Nat → Int32} {L : Nat → Int64} {p : Nat} (hp : p < pl.length) (k89 : Int32 → (Nat → Int32) → (Nat → Nat → Int32) → (Nat → Int64) → Option gS) :
    ∀ (n q : Nat) (A : Nat → Nat → Int32), q ≤ p → p - q < n → rpM (A 60) 0 pl → ((A 66 p = 1 ∧ 3 ≤ nOn pl vs p ∧ ∀ i, i < q → ¬ same (pl.getD i p0) (pl.getD p p0)) ∨ (A 66 p = 0 ∧ ¬ (3 ≤ nOn pl vs p ∧ ∀ i, i < q → ¬ same (pl.getD i p0) (pl.getD p p0)))) →
    ∃ c, f_X7_lays_p121 k89 n (Int32.ofNat p) (Int32.ofNat q) I A L = k89 (Int32.ofNat (p + 1)) I (va_up A 66 (upd (A 66) p c)) L ∧ ((c = 1 ∧ shw pl vs p) ∨ (c = 0 ∧ ¬ shw pl vs p)) := by
  intro n
  induction n with
  | zero => intro q A h1 h2; omega
  | succ n ih =>
    intro q A h1 h2 hm h3
    rw [f_X7_lays_p121_e]
    by_cases e : q = p
    · rw [if_pos (by rw [e]; exact o_le (by omega) (by omega) (by omega)), i_1]
      rw [e] at h3
      have same' : va_up A 66 (upd (A 66) p (A 66 p)) = A := by
        have : upd (A 66) p (A 66 p) = A 66 := by
          funext i
          by_cases c : i = p
          · rw [c, ds]
          · rw [dn _ _ c]
        rw [this, uself]
      refine ⟨A 66 p, by rw [same'], ?_⟩
      rcases h3 with ⟨a, b⟩ | ⟨a, b⟩
      · exact Or.inl ⟨a, b⟩
      · exact Or.inr ⟨a, b⟩
    · rw [if_neg (o_nle (by omega) (by omega) (by omega)), o_ck (by omega) (by omega), i_tnn (by omega), i_1]
      have next : ∀ c : Int32, ((c = 1 ∧ 3 ≤ nOn pl vs p ∧ ∀ i, i < q + 1 → ¬ same (pl.getD i p0) (pl.getD p p0)) ∨ (c = 0 ∧ ¬ (3 ≤ nOn pl vs p ∧ ∀ i, i < q + 1 → ¬ same (pl.getD i p0) (pl.getD p p0)))) → ∃ c', f_X7_lays_p121 k89 n (Int32.ofNat p) (Int32.ofNat (q + 1)) I (va_up A 66 (upd (A 66) p c)) L = k89 (Int32.ofNat (p + 1)) I (va_up A 66 (upd (A 66) p c')) L ∧ ((c' = 1 ∧ shw pl vs p) ∨ (c' = 0 ∧ ¬ shw pl vs p)) := fun c hc => by
        obtain ⟨c', b1, b2⟩ := ih (q + 1) (va_up A 66 (upd (A 66) p c)) (by omega) (by omega) (by rw [un _ _ (by omega)]; exact hm) (by rw [us, ds]; exact hc)
        refine ⟨c', ?_, b2⟩
        rw [b1, us, uu]
        have : upd (upd (A 66) p c) p c' = upd (A 66) p c' := by
          funext i
          by_cases z : i = p
          · rw [z, ds, ds]
          · rw [dn _ _ z, dn _ _ z, dn _ _ z]
        rw [this]
      rcases h3 with ⟨a, b, d⟩ | ⟨a, b⟩
      · rw [if_neg (by rw [a]; decide)]
        obtain ⟨t, t1, t2⟩ := isSame_s (I := I) (L := L) hl ho hm hp (show q < pl.length by omega)
        rw [t1, bd_some]
        rcases t2 with ⟨rfl, t2⟩ | ⟨rfl, t2⟩
        · rw [if_neg (by decide), o_ck (by omega) (by omega), g_lt_eq, show vp_nar .boolean 0 = 0 from rfl]
          exact next 0 (Or.inr ⟨rfl, fun z => z.2 q (by omega) (same_sy t2)⟩)
        · rw [if_pos rfl, o_ck (by omega) (by omega), g_lt_eq, show vp_nar .boolean 1 = 1 from rfl]
          refine next 1 (Or.inl ⟨rfl, b, fun i hi => ?_⟩)
          by_cases z : i = q
          · rw [z]; exact fun y => t2 (same_sy y)
          · exact d i (by omega)
      · rw [if_pos a, o_ck (by omega) (by omega), g_lt_eq, show vp_nar .boolean 0 = 0 from rfl]
        exact next 0 (Or.inr ⟨rfl, fun z => b ⟨z.1, fun i hi => z.2 i (by omega)⟩⟩)
theorem l89_l {pl : List Pl} (hl : pl.length ≤ 32) (ho : ∀ p ∈ pl, okP p) {vs : List Q4} (h60 : vs.length ≤ 60) {I : Nat → Int32} {L : Nat → Int64} :
    ∀ (n p : Nat) (A : Nat → Nat → Int32), p ≤ pl.length → pl.length - p < n → rpM (A 60) 0 pl → crM (I 955) (A 65) pl vs → (∀ i, i < p → (A 66 i = 1 ∧ shw pl vs i) ∨ (A 66 i = 0 ∧ ¬ shw pl vs i)) →
    ∃ row, f_X7_lays_p89 n (Int32.ofNat p) I A L = some (I, va_up A 66 row, L) ∧ ∀ i, i < pl.length → (row i = 1 ∧ shw pl vs i) ∨ (row i = 0 ∧ ¬ shw pl vs i) := by
  intro n
  induction n with
  | zero => intro p A h1 h2; omega
  | succ n ih =>
    intro p A h1 h2 hm hc h3
    rw [f_X7_lays_p89_e, m_c0, show A 60 (Int32.toNatClampNeg 0) = Int32.ofNat pl.length from hm.1]
    by_cases e : p = pl.length
    · rw [if_pos (by rw [e]; exact o_le (by omega) (by omega) (by omega))]
      exact ⟨A 66, by rw [uself], fun i hi => h3 i (by omega)⟩
    · have hp : p < pl.length := by omega
      rw [if_neg (o_nle (by omega) (by omega) hp), cOn_s (I := I) (L := L) hl h60 hc hp, bd_some]
      have hnb := nOn_le pl vs p
      have k := b_le (b_n (n := nOn pl vs p) (by omega)) (show bI 2 2 2 from b_n (n := 2) (by omega))
      have go : ∀ c : Int32, ((c = 1 ∧ 3 ≤ nOn pl vs p) ∨ (c = 0 ∧ ¬ 3 ≤ nOn pl vs p)) → ∃ row, f_X7_lays_p121 (f_X7_lays_p89 n) 4096 (Int32.ofNat p) 0 I (va_up A 66 (upd (A 66) p c)) L = some (I, va_up A 66 row, L) ∧ ∀ i, i < pl.length → (row i = 1 ∧ shw pl vs i) ∨ (row i = 0 ∧ ¬ shw pl vs i) := fun c hcc => by
        obtain ⟨c', b1, b2⟩ := l121_l (vs := vs) hl ho (I := I) (L := L) hp (f_X7_lays_p89 n) 4096 0 (va_up A 66 (upd (A 66) p c)) (by omega) (by omega) (by rw [un _ _ (by omega)]; exact hm) (by
          rw [us, ds]
          rcases hcc with ⟨x, y⟩ | ⟨x, y⟩
          · exact Or.inl ⟨x, y, fun i hi => by omega⟩
          · exact Or.inr ⟨x, fun z => y z.1⟩)
        have b1' : f_X7_lays_p121 (f_X7_lays_p89 n) 4096 (Int32.ofNat p) 0 I (va_up A 66 (upd (A 66) p c)) L = _ := b1
        rw [b1', us, uu]
        obtain ⟨row, d1, d2⟩ := ih (p + 1) (va_up A 66 (upd (upd (A 66) p c) p c')) (by omega) (by omega) (by rw [un _ _ (by omega)]; exact hm) (by rw [un _ _ (by omega)]; exact hc) (fun i hi => by
          rw [us]
          by_cases z : i = p
          · rw [z, ds]; exact b2
          · rw [dn _ _ z, dn _ _ z]; exact h3 i (by omega))
        exact ⟨row, by rw [d1, uu], d2⟩
      by_cases c : nOn pl vs p ≤ 2
      · rw [if_pos (k.mpr (by omega)), o_ck (by omega) (by omega), g_lt_eq, i_tnn (by omega), show vp_nar .boolean 0 = 0 from rfl]
        exact go 0 (Or.inr ⟨rfl, by omega⟩)
      · rw [if_neg (fun q => by have := k.mp q; omega), o_ck (by omega) (by omega), g_lt_eq, i_tnn (by omega), show vp_nar .boolean 1 = 1 from rfl]
        exact go 1 (Or.inl ⟨rfl, by omega⟩)
/-- what the reference lays -/
def Mo (I : Nat → Int32) (A : Nat → Nat → Int32) (pl : List Pl) (vs : List Q4) : Prop := rpM (A 60) 0 pl ∧ crM (I 955) (A 65) pl vs ∧ ∀ i, i < pl.length → (A 66 i = 1 ∧ shw pl vs i) ∨ (A 66 i = 0 ∧ ¬ shw pl vs i)
theorem mlay_s {pl : List Pl} (ok : okL pl) {I : Nat → Int32} {A : Nat → Nat → Int32} {L : Nat → Int64} (hm : rpM (A 60) 0 pl) : ∃ I' A' vs, f_X7_lays I A L = some (I', A', L) ∧ IsCrn pl vs ∧ vs.length ≤ 60 ∧ Mo I' A' pl vs ∧ (∀ i, i ≠ 955 → I' i = I i) ∧ ∀ r, r ≠ 65 → r ≠ 66 → A' r = A r := by
  unfold f_X7_lays
  rw [g_lt_eq]
  obtain ⟨I1, A1, vs, a1, a2, a3, a4, a5⟩ := l7_l ok (L := L) 4096 0 (va_up I 955 0) A [] (by omega) (by have := ok.2.1; omega) hm ⟨⟨by rw [us]; rfl, fun j hj => absurd hj (by simp)⟩, List.Pairwise.nil, fun v hv => absurd hv (by simp)⟩ (fun p' q' r' x1 x2 x3 x4 => by omega)
  have a1' : f_X7_lays_p7 4096 0 (va_up I 955 0) A L = _ := a1
  have h60 : vs.length ≤ 60 := sixty ok.2.1 (srt_nd a2.2.1) a2.2.2
  have hm1 : rpM (A1 60) 0 pl := by rw [a4 60 (by omega)]; exact hm
  obtain ⟨row, b1, b2⟩ := l89_l ok.2.1 ok.2.2.1 h60 (I := I1) (L := L) 4096 0 A1 (by omega) (by have := ok.2.1; omega) hm1 a2.1 (fun i hi => by omega)
  have b1' : f_X7_lays_p89 4096 0 I1 A1 L = _ := b1
  rw [a1', b1']
  refine ⟨I1, va_up A1 66 row, vs, rfl, ⟨a2.2.1, fun v => ⟨a2.2.2 v, fun hv => D3_all a5 hv⟩⟩, h60, ⟨by rw [un _ _ (by omega)]; exact hm1, by rw [un _ _ (by omega)]; exact a2.1, fun i hi => by rw [us]; exact b2 i hi⟩, fun i hi => by rw [a3 i hi, un _ _ hi], fun r r1 r2 => by rw [un _ _ r2, a4 r r1]⟩
