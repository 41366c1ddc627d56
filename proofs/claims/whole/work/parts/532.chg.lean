/-- a call that changes planes: what both do ahead of it and what must be shown behind it -/
theorem change {I : Nat → Int32} {A : Nat → Nat → Int32} {L : Nat → Int64} (hI : Inv I A L) : ∃ (pl : List Pl) (I1 : Nat → Int32) (A1 : Nat → Nat → Int32), okL pl ∧ rpX (I 20) (A 2) (A 3) (A 4) (A 5) pl ∧ rpM (A 60) 0 pl ∧ f_X6_leaveState I A L = some (I1, A1, L) ∧ rpX (I1 20) (A1 2) (A1 3) (A1 4) (A1 5) pl ∧ I1 20 = I 20 ∧ A1 60 = A 60 ∧ (∀ r, (r ≤ 13 ∨ 37 < r) → A1 r = A r) ∧
    ∀ (I2 : Nat → Int32) (A2 : Nat → Nat → Int32) (pl' : List Pl), okL pl' → (∀ i, i ≠ 20 → I2 i = I1 i) → (∀ r, (r ≤ 1 ∨ 6 ≤ r) → A2 r = A1 r) → rpX (I2 20) (A2 2) (A2 3) (A2 4) (A2 5) pl' → ∀ {τ : Type} (g : (Nat → Int32) → (Nat → Nat → Int32) → (Nat → Int64) → Option τ), ∃ (I3 : Nat → Int32) (A3 : Nat → Nat → Int32), g_b1 (f_X7_aside I2 A2 L) (fun I6 A7 L8 => g_b1 (f_X7_keeps I6 A7 L8) g) = g I3 A3 L ∧ A3 60 = A 60 ∧ (∀ s', rpM s' 0 pl' → Inv I3 (va_up A3 60 s') L) := by
  obtain ⟨pl, past, ⟨ok, hx, hm⟩, hst, h3, h4, h5, h6, h7⟩ := hI
  obtain ⟨sx, sm, so⟩ := vSt_split hst
  obtain ⟨I1, A1, e1, x1, x7, x8, xI, xA⟩ := leave_s (L := L) sx hx ok.2.1
  have e20 : I1 20 = I 20 := xI 20 (by omega) (by omega) (by omega) (by omega) (by omega)
  refine ⟨pl, I1, A1, ok, hx, hm, e1, ?_, e20, xA 60 (by omega), xA, fun I2 A2 pl' ok' eI eA hx' τ g => ?_⟩
  · rw [e20, xA 2 (by omega), xA 3 (by omega), xA 4 (by omega), xA 5 (by omega)]
    exact hx
  · have m60 : A2 60 = A 60 := by rw [eA 60 (by omega), xA 60 (by omega)]
    have m61 : A2 61 = A 61 := by rw [eA 61 (by omega), xA 61 (by omega)]
    obtain ⟨kk, r61, r62, hm1, e3⟩ := m_leave (I := I2) (A := A2) (L := L) (pl := pl) (past := past) (by rw [eI 946 (by omega), xI 946 (by omega) (by omega) (by omega) (by omega) (by omega), m61]; exact sm) (by rw [m60]; exact hm) ok.2.1 g
    refine ⟨_, _, e3, by rw [un _ _ (by omega), un _ _ (by omega), m60], fun s' hs' => ?_⟩
    refine inv_change (I := I) (A := A) (pl := pl) (past := past) h3 h4 h5 (psh_ok so ok) ?_ ?_ ?_ ?_ ?_ hm1 ⟨ok', hx', hs'⟩
    · rw [eI 177 (by omega), eI 178 (by omega), rgX_up (I := I1) (A := A1) (fun i a b => eI i (by omega)) (fun r a b => eA r (by omega))]
      exact x1
    · rw [eI 7 (by omega)]; exact x7
    · rw [eI 8 (by omega)]; exact x8
    · intro i a1 a2 a3 a4 a5 a6
      rw [eI i a1, xI i a2 a3 a4 a5 a6]
    · intro r hr
      rw [eA r (by omega), xA r (by omega)]
theorem m_plane (I : Nat → Int32) (A : Nat → Nat → Int32) (L : Nat → Int64) (p : Int32) {n : Nat} (hn : A 60 0 = Int32.ofNat n) (h1 : 6 ≤ n) (h2 : n ≤ 32) : f_X7_isPlane I A L p = some (if 0 ≤ p ∧ p < Int32.ofNat n then 1 else 0) := by
  unfold f_X7_isPlane
  rw [m_c0, m_in, bd_some]
  have e : ((0 : Int32) ≤ p ∧ p ≤ A 60 (Int32.toNatClampNeg 0) - 1) ↔ (0 ≤ p ∧ p < Int32.ofNat n) := by
    show (0 ≤ p ∧ p ≤ A 60 0 - 1) ↔ _
    rw [hn, show n = (n - 1) + 1 by omega, o_pred, i_le (b := Int32.ofNat (n - 1)), i_lt, i_nat (by omega), i_nat (by omega)]
    constructor
    · rintro ⟨a, b⟩; exact ⟨a, by omega⟩
    · rintro ⟨a, b⟩; exact ⟨a, by omega⟩
  by_cases h : 0 ≤ p ∧ p < Int32.ofNat n
  · rw [if_pos (e.mpr h), if_pos h]; rfl
  · rw [if_neg (fun q => h (e.mp q)), if_neg h]; rfl
theorem x_plane (I : Nat → Int32) (A : Nat → Nat → Int32) (L : Nat → Int64) (p : Int32) {n : Nat} (hn : I 20 = Int32.ofNat n) : f_X6_isPlane I A L p = some (if 0 ≤ p ∧ p < Int32.ofNat n then 1 else 0) := by
  unfold f_X6_isPlane
  by_cases h1 : p < 0
  · rw [if_pos h1, if_neg (fun q => absurd q.1 (Int32.not_le.mpr h1))]
  · rw [if_neg h1, hn]
    by_cases h2 : Int32.ofNat n ≤ p
    · rw [if_pos h2, if_neg (fun q => absurd q.2 (Int32.not_lt.mpr h2))]
    · rw [if_neg h2, if_pos ⟨i_nlt h1, i_nle h2⟩]
/-- a number of a plane, as a place -/
theorem pl_nat {p : Int32} {n : Nat} (hn : n ≤ 1000000) (h : 0 ≤ p ∧ p < Int32.ofNat n) : ∃ j, j < n ∧ p = Int32.ofNat j := by
  have h1 := i_le.mp h.1
  have h2 := i_lt.mp h.2
  rw [i_nat (by omega)] at h2
  have h1 : 0 ≤ p.toInt := h1
  refine ⟨p.toInt.toNat, by omega, ?_⟩
  rw [i_eq, i_nat (by omega)]
  omega
theorem gD_set {pl : List Pl} {i j : Nat} {q : Pl} (hi : i < pl.length) : (pl.set i q).getD j p0 = if j = i then q else pl.getD j p0 := by
  rw [List.getD_eq_getElem?_getD, List.getElem?_set, List.getD_eq_getElem?_getD]
  by_cases h : i = j
  · subst h
    rw [if_pos rfl, if_pos hi, if_pos rfl]; rfl
  · rw [if_neg h, if_neg (fun q => h q.symm)]
theorem gD_mem {pl : List Pl} {i : Nat} (hi : i < pl.length) : pl.getD i p0 ∈ pl := by
  rw [List.getD_eq_getElem?_getD, List.getElem?_eq_getElem hi]
  exact List.getElem_mem hi
theorem st_off : gStep_off Inv := by
  intro p v I A L hI
  obtain ⟨pl, I1, A1, ok, hx, hm, e1, hx1, e20, e60, eA, key⟩ := change hI
  have bx : f_X6_off_p15 I A L = some (-2, va_up I 13 (I 13 + 1), A, L) := by unfold f_X6_off_p15; rw [rf_bad]; rfl
  have bm : f_X7_off_p18 (va_up I 13 (I 13 + 1)) A L = some (-2, va_up I 13 (I 13 + 1), va_up A 63 (upd (A 63) 0 (A 63 0 + 1)), L) := by unfold f_X7_off_p18; rw [rm_bad]; rfl
  by_cases hp : 0 ≤ p ∧ p < Int32.ofNat pl.length
  · by_cases hv : 1 ≤ v ∧ v ≤ 60
    · obtain ⟨j, hj, rfl⟩ := pl_nat (by have := ok.2.1; omega) hp
      have hj32 : j < 32 := by have := ok.2.1; omega
      let q := pl.getD j p0
      have hq : q = (A 2 j, A 3 j, A 4 j, A 5 j) := hx.2 j hj
      have hqm : q = (A 60 (0 + 1 + 4 * j), A 60 (0 + 2 + 4 * j), A 60 (0 + 3 + 4 * j), A 60 (0 + 4 + 4 * j)) := hm.2 j hj
      have hqx1 : q = (A1 2 j, A1 3 j, A1 4 j, A1 5 j) := hx1.2 j hj
      have hold : A1 5 j = A 60 (4 + 4 * j) := by
        have a1 : A1 5 j = q.2.2.2 := by rw [hqx1]
        have a2 : A 60 (0 + 4 + 4 * j) = q.2.2.2 := by rw [hqm]
        rw [a1, ← a2, Nat.zero_add]
      let pl' := pl.set j (q.1, q.2.1, q.2.2.1, v)
      have ok' : okL pl' := by
        obtain ⟨k1, k2, k3, k4⟩ := ok
        refine ⟨by rw [List.length_set]; exact k1, by rw [List.length_set]; exact k2, fun r hr => ?_, fun i hi => ?_⟩
        · rcases List.mem_or_eq_of_mem_set hr with hr | hr
          · exact k3 r hr
          · rw [hr]
            obtain ⟨a, b, c, d, e, f⟩ := k3 q (gD_mem hj)
            exact ⟨a, b, c, d, i_le.mp hv.1, i_le.mp hv.2⟩
        · rw [gD_set hj]
          by_cases e : i = j
          · rw [if_pos e, e]
            exact k4 j (by omega)
          · rw [if_neg e]
            exact k4 i hi
      obtain ⟨I3, A3, e3, e4, e5⟩ := key I1 (va_up A1 5 (upd (A1 5) j v)) pl' ok' (fun _ _ => rfl) (fun r hr => un _ _ (by omega)) (by
        refine ⟨by rw [List.length_set]; exact hx1.1, fun i hi => ?_⟩
        rw [List.length_set] at hi
        rw [gD_set hj, un _ _ (by omega), un _ _ (by omega), un _ _ (by omega), us]
        by_cases e : i = j
        · subst e
          rw [if_pos rfl, ds, hqx1]
        · rw [if_neg e, dn _ _ e]
          exact hx1.2 i hi) (fun I10 A11 L12 => Option.bind (f_X7_get I10 A11 L12 (Int32.ofNat j) 3) (fun v14 => g_ck (4 + (4 * Int32.ofNat j)) 129 (g_lt (va_up A11 60 (upd (A11 60) (Int32.toNatClampNeg (4 + (4 * Int32.ofNat j))) v)) (fun A15 => some (v14, I10, A15, L12)))))
      have n1 : (4 : Int32) + 4 * Int32.ofNat j = Int32.ofNat (4 * j + 4) := by rw [Int32.add_comm]; exact o_lin 4 j 4
      have n2 : (1 : Int32) + 4 * Int32.ofNat j + 3 = Int32.ofNat (4 * j + 4) := by
        rw [show (1 : Int32) + 4 * Int32.ofNat j = Int32.ofNat (4 * j + 1) from by rw [Int32.add_comm]; exact o_lin 4 j 1]
        show Int32.ofNat (4 * j + 1) + Int32.ofNat 3 = _
        rw [← Int32.ofNat_add]
      refine ⟨A1 5 j, I1, va_up A1 5 (upd (A1 5) j v), L, I3, va_up A3 60 (upd (A 60) (4 * j + 4) v), L, ?_, ?_, e5 _ ⟨?_, fun i hi => ?_⟩⟩
      · unfold f_X6_off
        rw [x_plane I A L _ hx.1, if_pos hp, bd_some, if_neg (by decide), x_off, if_pos hv, bd_some, if_neg (by decide), e1, b1_some, o_ck hj32 (by omega), g_lt_eq, o_ck hj32 (by omega), g_lt_eq, i_tnn (by omega)]
      · unfold f_X7_off
        rw [m_plane I1 _ L _ (n := pl.length) (by rw [un _ _ (by omega), e60]; exact hm.1) ok.1 ok.2.1, if_pos hp, bd_some, if_neg (by decide), m_in, if_pos hv, bd_some, if_neg (by decide), e3]
        unfold f_X7_get
        rw [n1, n2, o_ck (by omega) (by omega), bd_some, o_ck (by omega) (by omega), g_lt_eq, i_tnn (by omega), e4, hold, Nat.add_comm 4]
      · rw [dn _ _ (by omega), List.length_set]; exact hm.1
      · rw [List.length_set] at hi
        rw [gD_set hj]
        by_cases e : i = j
        · subst e
          rw [if_pos rfl, hqm]
          refine quad ?_ ?_ ?_ ?_
          · rw [dn _ _ (by omega)]
          · rw [dn _ _ (by omega)]
          · rw [dn _ _ (by omega)]
          · rw [show 0 + 4 + 4 * i = 4 * i + 4 by omega, ds]
        · rw [if_neg e, hm.2 i hi]
          refine quad ?_ ?_ ?_ ?_ <;> rw [dn _ _ (by omega)]
    · obtain ⟨I2, A2, L2, e1, e2, e3⟩ := bad2 hI (F := f_X6_off p v I A L) (G := f_X7_off p v (va_up I 13 (I 13 + 1)) A L) (a := -2) (by unfold f_X6_off; rw [x_plane I A L _ hx.1, if_pos hp, bd_some, if_neg (by decide), x_off, if_neg hv, bd_some, if_pos rfl, bx]) (by unfold f_X7_off; rw [m_plane _ A L _ (n := pl.length) hm.1 ok.1 ok.2.1, if_pos hp, bd_some, if_neg (by decide), m_in, if_neg hv, bd_some, if_pos rfl, bm])
      exact ⟨-2, _, _, _, I2, A2, L2, e1, e2, e3⟩
  · obtain ⟨I2, A2, L2, e1, e2, e3⟩ := bad2 hI (F := f_X6_off p v I A L) (G := f_X7_off p v (va_up I 13 (I 13 + 1)) A L) (a := -2) (by unfold f_X6_off; rw [x_plane I A L _ hx.1, if_neg hp, bd_some, if_pos rfl, bx]) (by unfold f_X7_off; rw [m_plane _ A L _ (n := pl.length) hm.1 ok.1 ok.2.1, if_neg hp, bd_some, if_pos rfl, bm])
    exact ⟨-2, _, _, _, I2, A2, L2, e1, e2, e3⟩
