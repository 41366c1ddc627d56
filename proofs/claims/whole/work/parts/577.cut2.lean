/-! cut: over all pairs -/
def CS (b : Nat) (I : Nat → Int32) (A : Nat → Nat → Int32) (pl' : List Pl) (vs : List Q4) : Prop := crX (I (16 * b + 7)) A b vs ∧ vs.Pairwise ltQ ∧ ∀ v ∈ vs, isC pl' v
def FrI (b : Nat) (I I' : Nat → Int32) : Prop := ∀ k, k ≠ 16 * b + 7 → (k < 16 * b + 112 ∨ 16 * b + 122 < k) → I' k = I k
def FrA (b : Nat) (A A' : Nat → Nat → Int32) : Prop := ∀ r, (r ≤ b ∨ b + 4 < r) → A' r = A r
def Dn (pl : List Pl) (w : Int32) (pl' : List Pl) (i j : Nat) (vs : List Q4) : Prop := ∀ i' j', i' < j' → j' < pl.length → (i' < i ∨ (i' = i ∧ j' < j)) → ¬ Int32.ofNat i' = w → ¬ Int32.ofNat j' = w → wy (pl.getD i' p0) (pl.getD j' p0) ≠ (0, 0, 0) → ∀ v, isC pl' v → sd (pl.getD i' p0) v = 0 → sd (pl.getD j' p0) v = 0 → v ∈ vs
theorem Dn_up {pl : List Pl} {w : Int32} {pl' : List Pl} {i j : Nat} {vs ws : List Q4} (h : Dn pl w pl' i j vs) (hs : ∀ v ∈ vs, v ∈ ws) (hij : ¬ Int32.ofNat i = w → ¬ Int32.ofNat j = w → wy (pl.getD i p0) (pl.getD j p0) ≠ (0, 0, 0) → ∀ v, isC pl' v → sd (pl.getD i p0) v = 0 → sd (pl.getD j p0) v = 0 → v ∈ ws) : Dn pl w pl' i (j + 1) ws := by
  intro i' j' h1 h2 h3 h4 h5 h6 v hv e1 e2
  by_cases c : i' = i ∧ j' = j
  · obtain ⟨rfl, rfl⟩ := c
    exact hij h4 h5 h6 v hv e1 e2
  · exact hs v (h i' j' h1 h2 (by omega) h4 h5 h6 v hv e1 e2)
/-- one pair -/
theorem pair_s {b : Nat} (hb38 : 38 ≤ b) {I : Nat → Int32} {A : Nat → Nat → Int32} {L : Nat → Int64} {pl : List Pl} {w : Int32} {pl' : List Pl} (hl : pl.length ≤ 32) (ho : ∀ p ∈ pl, okP p) (hl' : pl'.length ≤ 32) (hBx : Bx pl') (hm : ∀ r, r ∈ pl' ↔ prt pl w pl.length r) (h20 : I (16 * 1 + 4) = Int32.ofNat pl.length) (hr : ∀ j, j < pl.length → pl.getD j p0 = (A 2 j, A 3 j, A 4 j, A 5 j)) {vs : List Q4} (hc : CS b I A pl' vs) {i j : Nat} (hi : i < pl.length) (hj : j < pl.length) (wi : ¬ Int32.ofNat i = w) (wj : ¬ Int32.ofNat j = w) {τ : Type} (F : (Nat → Int32) → (Nat → Nat → Int32) → (Nat → Int64) → Option τ) :
    ∃ I' A' vs', g_b2 (f_X1_lay (b + 7) 1 (Int32.ofNat i) (Int32.ofNat j) I A L) (fun v5 I2 A3 L4 => if v5 = 0 then F I2 A3 L4 else (g_b2 (f_X1_isLeftBy (b + 7) 1 w I2 A3 L4) (fun v10 I7 A8 L9 => if v10 = 0 then F I7 A8 L9 else (g_b1 (f_X4_keepPoint b (I7 (16 * b + 119)) (I7 (16 * b + 120)) I7 A8 L9) (fun I12 A13 L14 => g_b1 (f_X4_keepPoint b (I12 (16 * b + 121)) (I12 (16 * b + 122)) I12 A13 L14) F))))) = F I' A' L ∧ CS b I' A' pl' vs' ∧ FrI b I I' ∧ FrA b A A' ∧ (∀ v ∈ vs, v ∈ vs') ∧ (wy (pl.getD i p0) (pl.getD j p0) ≠ (0, 0, 0) → ∀ v, isC pl' v → sd (pl.getD i p0) v = 0 → sd (pl.getD j p0) v = 0 → v ∈ vs') := by
  obtain ⟨hx, hs, hC⟩ := hc
  have hPm : pl.getD i p0 ∈ pl' := (hm _).mpr ⟨i, hi, hi, wi, rfl⟩
  have hQm : pl.getD j p0 ∈ pl' := (hm _).mpr ⟨j, hj, hj, wj, rfl⟩
  obtain ⟨c, I1, a1, a2, a3⟩ := lay_s (b := b) (I := I) (L := L) (show i < 32 by omega) (show j < 32 by omega) (hr i hi) (hr j hj) (ho _ (pD_in hi)) (ho _ (pD_in hj))
  rw [a1, b2_some]
  rcases a3 with ⟨rfl, a4⟩ | ⟨rfl, a4, a5, a6, a7, a8, a9⟩
  · rw [if_pos rfl]
    exact ⟨I1, A, vs, rfl, ⟨by rw [a2 _ (by omega)]; exact hx, hs, hC⟩, fun k k1 k2 => a2 k k2, fun _ _ => rfl, fun v h => h, fun h => absurd a4 h⟩
  · rw [if_neg (by decide)]
    have hH : LnH I1 b (-1) 0 1 0 := by
      refine ⟨?_, ?_, ?_, ?_⟩
      · rw [a6]; exact b_w b_m1 (by decide)
      · rw [a7]; exact b_w b_0 (by decide)
      · rw [a8]; exact b_w b_1 (by decide)
      · rw [a9]; exact b_w b_0 (by decide)
    have hI0 : LI (pl.getD i p0) (pl.getD j p0) (prt pl w 0) (-1) 0 1 0 := LI_c (LI_0 _ _) (fun r => ⟨fun ⟨i, h, _⟩ => by omega, fun h => h.elim⟩)
    obtain ⟨c, I2, b1, b2, b3⟩ := left_l (b := b) (A := A) (L := L) (P := pl.getD i p0) (Q := pl.getD j p0) (w := w) hl ho hr 4096 0 I1 _ _ _ _ (by omega) (by omega) (by rw [a2 _ (by omega)]; exact h20) hb38 a5 hH hI0
    have b1' : f_X1_isLeftBy (b + 7) 1 w I1 A L = some (c, I2, A, L) := b1
    rw [b1', b2_some]
    rcases b3 with ⟨rfl, la, lb, ha, hb, b4, b5⟩ | ⟨rfl, b4⟩
    · rw [if_neg (by decide)]
      have hS2 : LnS I2 b (pl.getD i p0) (pl.getD j p0) := LnS_c a5 (fun k k1 k2 => b2 k (by omega))
      obtain ⟨n1, n2, n3⟩ := ends a4 (fun r => (hm r).symm) hPm hQm b5
      have h7 : I2 (16 * b + 7) = I (16 * b + 7) := by rw [b2 _ (by omega), a2 _ (by omega)]
      obtain ⟨A3, vs3, c1, c2, c3, c4, c5, c6, c7⟩ := keep_s (L := L) a4 hS2 b4.1 b4.2.1 hl' hBx (vs := vs) (A := A) (by rw [h7]; exact hx) hs hC n1
      rw [c1, b1_some]
      have g1 : va_up I2 (16 * b + 7) (Int32.ofNat vs3.length) (16 * b + 121) = I2 (16 * b + 121) := un _ _ (by omega)
      have g2 : va_up I2 (16 * b + 7) (Int32.ofNat vs3.length) (16 * b + 122) = I2 (16 * b + 122) := un _ _ (by omega)
      rw [g1, g2]
      obtain ⟨A4, vs4, d1, d2, d3, d4, d5, d6, d7⟩ := keep_s (I := va_up I2 (16 * b + 7) (Int32.ofNat vs3.length)) (L := L) a4 (LnS_c hS2 (fun k k1 k2 => un _ _ (by omega))) b4.2.2.1 b4.2.2.2 hl' hBx (vs := vs3) (A := A3) (by rw [us]; exact c2) c3 c4 n2
      rw [d1, b1_some, uu]
      refine ⟨_, A4, vs4, rfl, ⟨by rw [us]; exact d2, d3, d4⟩, fun k k1 k2 => ?_, fun r hr => by rw [d7 r hr, c7 r hr], fun v hv => d5 v (c5 v hv), fun _ v hv e1 e2 => ?_⟩
      · rw [un _ _ k1, b2 k (by omega), a2 k k2]
      · rcases n3 v hv e1 e2 with ⟨z1, k, z2, z3⟩ | ⟨z1, k, z2, z3⟩
        · exact d5 v (c6 z1 k v z2 z3 hv.1)
        · exact d6 z1 k v z2 z3 hv.1
    · rw [if_pos rfl]
      refine ⟨I2, A, vs, rfl, ⟨by rw [b2 _ (by omega), a2 _ (by omega)]; exact hx, hs, hC⟩, fun k k1 k2 => by rw [b2 k (by omega), a2 k k2], fun _ _ => rfl, fun v h => h, fun _ v hv e1 e2 => ?_⟩
      exact (no_v a4 (fun r hr => (hm r).mpr hr) b4 (isC_in hv) e1 e2).elim
theorem cut20_l {b : Nat} (hb38 : 38 ≤ b) {L : Nat → Int64} {pl : List Pl} {w : Int32} {pl' : List Pl} (hl : pl.length ≤ 32) (ho : ∀ p ∈ pl, okP p) (hl' : pl'.length ≤ 32) (hBx : Bx pl') (hm : ∀ r, r ∈ pl' ↔ prt pl w pl.length r) {i : Nat} (hi : i < pl.length) (k7 : Int32 → Int32 → (Nat → Int32) → (Nat → Nat → Int32) → (Nat → Int64) → Option gS) :
    ∀ (n j : Nat) (I : Nat → Int32) (A : Nat → Nat → Int32) (vs : List Q4), j ≤ pl.length → pl.length - j < n → i < j → I (16 * 1 + 4) = Int32.ofNat pl.length → (∀ j, j < pl.length → pl.getD j p0 = (A 2 j, A 3 j, A 4 j, A 5 j)) → CS b I A pl' vs → Dn pl w pl' i j vs →
    ∃ I' A' vs', f_X4_cut_p20 b 1 k7 n w (Int32.ofNat i) (Int32.ofNat j) I A L = k7 w (Int32.ofNat (i + 1)) I' A' L ∧ CS b I' A' pl' vs' ∧ FrI b I I' ∧ FrA b A A' ∧ Dn pl w pl' i pl.length vs' := by
  intro n
  induction n with
  | zero => intro j I A vs _ h; omega
  | succ n ih =>
    intro j I A vs h1 h2 h3 h20 hr hc hd
    rw [f_X4_cut_p20_e, h20]
    by_cases e : j = pl.length
    · rw [if_pos (by rw [e]; exact o_le (by omega) (by omega) (by omega)), i_1]
      refine ⟨I, A, vs, rfl, hc, fun _ _ _ => rfl, fun _ _ => rfl, ?_⟩
      rw [e] at hd
      exact hd
    · have hj : j < pl.length := by omega
      rw [if_neg (o_nle (by omega) (by omega) hj)]
      by_cases wi : Int32.ofNat i = w
      · rw [if_pos wi, i_1]
        exact ih (j + 1) I A vs (by omega) (by omega) (by omega) h20 hr hc (Dn_up hd (fun v h => h) (fun q => absurd wi q))
      · rw [if_neg wi]
        by_cases wj : Int32.ofNat j = w
        · rw [if_pos wj, i_1]
          exact ih (j + 1) I A vs (by omega) (by omega) (by omega) h20 hr hc (Dn_up hd (fun v h => h) (fun _ q => absurd wj q))
        · rw [if_neg wj, i_1]
          obtain ⟨I', A', vs', a1, a2, a3, a4, a5, a6⟩ := pair_s hb38 (L := L) hl ho hl' hBx hm h20 hr hc hi hj wi wj (fun I16 A17 L18 => f_X4_cut_p20 b 1 k7 n w (Int32.ofNat i) (Int32.ofNat (j + 1)) I16 A17 L18)
          rw [a1]
          obtain ⟨I2, A2, vs2, b1, b2, b3, b4, b5⟩ := ih (j + 1) I' A' vs' (by omega) (by omega) (by omega) (by rw [a3 _ (by omega) (by omega)]; exact h20) (fun t ht => by rw [a4 2 (by omega), a4 3 (by omega), a4 4 (by omega), a4 5 (by omega)]; exact hr t ht) a2 (Dn_up hd a5 (fun _ _ => a6))
          exact ⟨I2, A2, vs2, b1, b2, fun k k1 k2 => by rw [b3 k k1 k2, a3 k k1 k2], fun r hr => by rw [b4 r hr, a4 r hr], b5⟩
theorem cut7_l {b : Nat} (hb38 : 38 ≤ b) {L : Nat → Int64} {pl : List Pl} {w : Int32} {pl' : List Pl} (hl : pl.length ≤ 32) (ho : ∀ p ∈ pl, okP p) (hl' : pl'.length ≤ 32) (hBx : Bx pl') (hm : ∀ r, r ∈ pl' ↔ prt pl w pl.length r) :
    ∀ (n i : Nat) (I : Nat → Int32) (A : Nat → Nat → Int32) (vs : List Q4), i ≤ pl.length → pl.length - i < n → I (16 * 1 + 4) = Int32.ofNat pl.length → (∀ j, j < pl.length → pl.getD j p0 = (A 2 j, A 3 j, A 4 j, A 5 j)) → CS b I A pl' vs → Dn pl w pl' i 0 vs →
    ∃ I' A' vs', f_X4_cut_p7 b 1 n w (Int32.ofNat i) I A L = some (I', A', L) ∧ CS b I' A' pl' vs' ∧ FrI b I I' ∧ FrA b A A' ∧ Dn pl w pl' pl.length 0 vs' := by
  intro n
  induction n with
  | zero => intro i I A vs _ h; omega
  | succ n ih =>
    intro i I A vs h1 h2 h20 hr hc hd
    rw [f_X4_cut_p7_e, h20]
    by_cases e : i = pl.length
    · rw [if_pos (by rw [e]; exact o_le (by omega) (by omega) (by omega))]
      refine ⟨I, A, vs, rfl, hc, fun _ _ _ => rfl, fun _ _ => rfl, ?_⟩
      rw [e] at hd
      exact hd
    · have hi : i < pl.length := by omega
      rw [if_neg (o_nle (by omega) (by omega) hi), i_1]
      obtain ⟨I', A', vs', a1, a2, a3, a4, a5⟩ := cut20_l hb38 (L := L) hl ho hl' hBx hm hi (f_X4_cut_p7 b 1 n) 4096 (i + 1) I A vs (by omega) (by omega) (by omega) h20 hr hc (fun i' j' x1 x2 x3 => hd i' j' x1 x2 (by omega))
      rw [a1]
      obtain ⟨I2, A2, vs2, b1, b2, b3, b4, b5⟩ := ih (i + 1) I' A' vs' (by omega) (by omega) (by rw [a3 _ (by omega) (by omega)]; exact h20) (fun t ht => by rw [a4 2 (by omega), a4 3 (by omega), a4 4 (by omega), a4 5 (by omega)]; exact hr t ht) a2 (fun i' j' x1 x2 x3 => a5 i' j' x1 x2 (by omega))
      exact ⟨I2, A2, vs2, b1, b2, fun k k1 k2 => by rw [b3 k k1 k2, a3 k k1 k2], fun r hr => by rw [b4 r hr, a4 r hr], b5⟩
theorem crs_sw0 {a b : V3} (h : crs a b = (0, 0, 0)) : crs b a = (0, 0, 0) := by rw [crs_sw, h]; rfl
/-- Solid.cut -/
theorem cut_s {b : Nat} (hb38 : 38 ≤ b) {I : Nat → Int32} {A : Nat → Nat → Int32} {L : Nat → Int64} {pl : List Pl} {w : Int32} {pl' : List Pl} (hl : pl.length ≤ 32) (ho : ∀ p ∈ pl, okP p) (hl' : pl'.length ≤ 32) (hBx : Bx pl') (hm : ∀ r, r ∈ pl' ↔ prt pl w pl.length r) (hx : rpX (I 20) (A 2) (A 3) (A 4) (A 5) pl) :
    ∃ I' A' vs, f_X4_cut b 1 w I A L = some (I', A', L) ∧ IsCrn pl' vs ∧ vs.length ≤ 60 ∧ crX (I' (16 * b + 7)) A' b vs ∧ FrI b I I' ∧ FrA b A A' := by
  unfold f_X4_cut
  rw [g_lt_eq]
  obtain ⟨I', A', vs, a1, a2, a3, a4, a5⟩ := cut7_l hb38 (L := L) hl ho hl' hBx hm 4096 0 (va_up I (16 * b + 7) 0) A [] (by omega) (by omega) (by rw [un _ _ (by omega)]; exact hx.1) hx.2 ⟨⟨by rw [us]; rfl, fun j hj => absurd hj (by simp)⟩, List.Pairwise.nil, fun v hv => absurd hv (by simp)⟩ (fun i' j' x1 x2 x3 => by omega)
  refine ⟨I', A', vs, a1, ⟨a2.2.1, fun v => ⟨a2.2.2 v, fun hv => ?_⟩⟩, sixty hl' (srt_nd a2.2.1) a2.2.2, a2.1, fun k k1 k2 => by rw [a3 k k1 k2, un _ _ k1], a4⟩
  obtain ⟨-, -, p, hp, q, hq, r, hr, hd, ep, eq, er⟩ := id hv
  obtain ⟨i, i1, i2, i3, rfl⟩ := (hm p).mp hp
  obtain ⟨j, j1, j2, j3, rfl⟩ := (hm q).mp hq
  have hW : wy (pl.getD i p0) (pl.getD j p0) ≠ (0, 0, 0) := fun z => by
    rw [dt3_c] at hd
    have z' : crs (nrm (pl.getD i p0)) (nrm (pl.getD j p0)) = (0, 0, 0) := z
    rw [z'] at hd
    simp [nd] at hd
  rcases (show i < j ∨ i = j ∨ j < i by omega) with c | c | c
  · exact a5 i j c j2 (by omega) i3 j3 hW v hv ep eq
  · subst c
    rw [dt3_12] at hd
    exact absurd rfl hd
  · exact a5 j i c i2 (by omega) j3 i3 (fun z => hW (crs_sw0 z)) v hv eq ep
