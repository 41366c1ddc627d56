/-! keepPoint -/
theorem keep_s {b : Nat} {I : Nat → Int32} {A : Nat → Nat → Int32} {L : Nat → Int64} {P Q : Pl} (hW : wy P Q ≠ (0, 0, 0)) (hS : LnS I b P Q) {ta tb : Int32} {a bb : Int} (hta : bI ta a 174960) (htb : bI tb bb 162) {pl : List Pl} (hl : pl.length ≤ 32) (hBx : Bx pl) {vs : List Q4} (hr : crX (I (16 * b + 7)) A b vs) (hs : vs.Pairwise ltQ) (hC : ∀ v ∈ vs, isC pl v) (hpt : 0 < bb → ∀ (k : Int) (w : Q4), 0 < k → pt P Q a bb = scl k w → rdc w → isC pl w) :
    ∃ A' vs', f_X4_keepPoint b ta tb I A L = some (va_up I (16 * b + 7) (Int32.ofNat vs'.length), A', L) ∧ crX (Int32.ofNat vs'.length) A' b vs' ∧ vs'.Pairwise ltQ ∧ (∀ v ∈ vs', isC pl v) ∧ (∀ v ∈ vs, v ∈ vs') ∧ (0 < bb → ∀ (k : Int) (w : Q4), 0 < k → pt P Q a bb = scl k w → rdc w → w ∈ vs') ∧ ∀ r, (r ≤ b ∨ b + 4 < r) → A' r = A r := by
  obtain ⟨⟨s1, s2, s3⟩, ⟨s4, s5, s6⟩, s7⟩ := hS
  have x1 : bI (I (16 * b + 115) * tb + I (16 * b + 112) * ta) (pt P Q a bb).1 5248800 := b_w (b_add (b_mul s4 htb (by decide)) (b_mul s1 hta (by decide)) (by decide)) (by decide)
  have x2 : bI (I (16 * b + 116) * tb + I (16 * b + 113) * ta) (pt P Q a bb).2.1 5248800 := b_w (b_add (b_mul s5 htb (by decide)) (b_mul s2 hta (by decide)) (by decide)) (by decide)
  have x3 : bI (I (16 * b + 117) * tb + I (16 * b + 114) * ta) (pt P Q a bb).2.2.1 5248800 := b_w (b_add (b_mul s6 htb (by decide)) (b_mul s3 hta (by decide)) (by decide)) (by decide)
  have x4 : bI (I (16 * b + 118) * tb) (pt P Q a bb).2.2.2 5248800 := b_w (b_mul s7 htb (by decide)) (by decide)
  have hsc : 0 < sc P Q := cu_pos hW
  have h60 : vs.length ≤ 60 := sixty hl (srt_nd hs) hC
  have same : ∃ A' vs', some (I, A, L) = some (va_up I (16 * b + 7) (Int32.ofNat vs'.length), A', L) ∧ crX (Int32.ofNat vs'.length) A' b vs' ∧ vs'.Pairwise ltQ ∧ (∀ v ∈ vs', isC pl v) ∧ (∀ v ∈ vs, v ∈ vs') ∧ (vs' = vs) ∧ ∀ r, (r ≤ b ∨ b + 4 < r) → A' r = A r := ⟨A, vs, by rw [← hr.1, uself], ⟨rfl, hr.2⟩, hs, hC, fun v h => h, rfl, fun _ _ => rfl⟩
  unfold f_X4_keepPoint
  rw [g_lt_eq, g_lt_eq, g_lt_eq, g_lt_eq, g4_x I A L (v := pt P Q a bb) x1 x2 x3 x4 (by decide)]
  have k4 := b_le x4 b_0
  have e4 : (pt P Q a bb).2.2.2 = sc P Q * bb := rfl
  by_cases hbb : bb ≤ 0
  · rw [if_pos (k4.mpr (by rw [e4]; exact Int.mul_nonpos_of_nonneg_of_nonpos (by omega) hbb))]
    obtain ⟨A', vs', y1, y2, y3, y4, y5, y6, y7⟩ := same
    exact ⟨A', vs', y1, y2, y3, y4, y5, fun h => by omega, y7⟩
  · have hbb' : 0 < bb := by omega
    have hd : 0 < (pt P Q a bb).2.2.2 := by rw [e4]; exact Int.mul_pos hsc hbb'
    rw [if_neg (fun q => by have := k4.mp q; omega)]
    obtain ⟨w, w1, w2, w3⟩ := low4 hd
    have hg := g4_bd x1.2 x2.2 x3.2 x4.2
    have hw := hpt hbb' _ w (by omega) w2 w3
    have only : ∀ (k : Int) (w' : Q4), 0 < k → pt P Q a bb = scl k w' → rdc w' → w' = w := fun k w' h1 h2 h3 => low_u h3 w3 h1 (show (0 : Int) < (g4 (pt P Q a bb) : Int) by omega) (by rw [← h2]; exact w2)
    have bq := isC_bQ hBx hw
    generalize hgg : g4 (pt P Q a bb) = g at *
    have q1 := b_quo (b_c x1 (congrArg (fun x : Q4 => x.1) w2)) w1 (by omega) (by decide)
    have q2 := b_quo (b_c x2 (congrArg (fun x : Q4 => x.2.1) w2)) w1 (by omega) (by decide)
    have q3 := b_quo (b_c x3 (congrArg (fun x : Q4 => x.2.2.1) w2)) w1 (by omega) (by decide)
    have q4 := b_quo (b_c x4 (congrArg (fun x : Q4 => x.2.2.2) w2)) w1 (by omega) (by decide)
    have hbP : bP _ _ _ _ w := ⟨⟨q1.1, bq.2.1⟩, ⟨q2.1, bq.2.2.1⟩, ⟨q3.1, bq.2.2.2⟩, ⟨q4.1, by have := bq.1; omega⟩⟩
    rw [if_pos ((b_lt b_0 (b_n (n := g) (by omega))).mpr (by omega)), o_dv (by omega) (by omega), o_dv (by omega) (by omega), o_dv (by omega) (by omega), o_dv (by omega) (by omega)]
    generalize (I (16 * b + 115) * tb + I (16 * b + 112) * ta) / Int32.ofNat g = px at *
    generalize (I (16 * b + 116) * tb + I (16 * b + 113) * ta) / Int32.ofNat g = py at *
    generalize (I (16 * b + 117) * tb + I (16 * b + 114) * ta) / Int32.ofNat g = pz at *
    generalize I (16 * b + 118) * tb / Int32.ofNat g = pd at *
    have hbQ : ∀ v ∈ vs, bQ v := fun v hv => isC_bQ hBx (hC v hv)
    obtain ⟨k, p1, p2, p3, p4⟩ := place_s (L := L) h60 hr hs hbQ hbP w3.1
    rw [p1, bd_some]
    have put : (∀ i, k ≤ i → i < vs.length → ltQ w (vs.getD i q0)) → ∃ A' vs', f_X4_keepPoint_p166 b px py pz pd (Int32.ofNat k) I A L = some (va_up I (16 * b + 7) (Int32.ofNat vs'.length), A', L) ∧ crX (Int32.ofNat vs'.length) A' b vs' ∧ vs'.Pairwise ltQ ∧ (∀ v ∈ vs', isC pl v) ∧ (∀ v ∈ vs, v ∈ vs') ∧ (0 < bb → ∀ (k : Int) (w : Q4), 0 < k → pt P Q a bb = scl k w → rdc w → w ∈ vs') ∧ ∀ r, (r ≤ b ∨ b + 4 < r) → A' r = A r := fun hlt => by
      have hs' := ins_s (k := k) (v := w) hs (fun i i1 _ => p3 i i1) hlt
      have hC' : ∀ v ∈ ins k w vs, isC pl v := fun v hv => by
        rcases ins_mem.mp hv with z | z
        · rw [z]; exact hw
        · exact hC v z
      have h60' := sixty hl (srt_nd hs') hC'
      rw [ins_len] at h60'
      obtain ⟨A', a1, a2, a3⟩ := put_l (b := b) (I := I) (L := L) p2 (by omega) (v := w) (px := px) (py := py) (pz := pz) (pd := pd) (by rw [hbP.1.1, hbP.2.1.1, hbP.2.2.1.1, hbP.2.2.2.1]) 4096 vs.length A p2 (by omega) (by omega) hr.2 (fun i i1 i2 => by omega)
      refine ⟨A', ins k w vs, ?_, ⟨rfl, fun j hj => ?_⟩, hs', hC', fun v hv => ins_mem.mpr (Or.inr hv), fun _ k' w' h1 h2 h3 => ins_mem.mpr (Or.inl (only k' w' h1 h2 h3)), a3⟩
      · unfold f_X4_keepPoint_p166 f_X4_putCorner
        rw [hr.1, if_pos ((b_lt (b_n (n := vs.length) (by omega)) (show bI 60 60 60 from b_n (n := 60) (by omega))).mpr (by omega)), g_lt_eq, a1, b1_some, hr.1, i_1, ins_len]
      · rw [ins_len] at hj
        exact a2 j hj
    rw [hr.1]
    by_cases c1 : vs.length ≤ k
    · rw [if_pos (o_le (by omega) (by omega) c1)]
      exact put (fun i i1 i2 => by omega)
    · have hk : k < vs.length := by omega
      rw [if_neg (o_nle (by omega) (by omega) hk)]
      obtain ⟨o, o1, o2, o3⟩ := ord_s (I := I) (L := L) hk h60 (hr.2 k hk) (hbQ _ (vD_mem hk)) hbP
      rw [o1, bd_some]
      have n1 := p4 k (by omega) hk
      by_cases c2 : ltQ w (vs.getD k q0)
      · rw [if_neg (fun q => (o3.mp q).2 c2)]
        refine put (fun i i1 i2 => ?_)
        by_cases e : i = k
        · rw [e]; exact c2
        · exact lt_tr w3.1 ((hbQ _ (vD_mem hk)).1.1) ((hbQ _ (vD_mem i2)).1.1) c2 (srt_lt hs (by omega) i2)
      · rw [if_pos (o3.mpr ⟨n1, c2⟩)]
        have ew : vs.getD k q0 = w := lt_tri (hC _ (vD_mem hk)).1 w3 n1 c2
        obtain ⟨A', vs', y1, y2, y3, y4, y5, y6, y7⟩ := same
        refine ⟨A', vs', y1, y2, y3, y4, y5, fun h k' w' h1 h2 h3 => ?_, y7⟩
        rw [y6, only k' w' h1 h2 h3, ← ew]
        exact vD_mem hk
/-! cut -/
theorem pt_par {P Q : Pl} (hW : wy P Q ≠ (0, 0, 0)) {v : Q4} (hv : rdc v) {a bb ha hb k : Int} (hk : 0 < k) (h1 : scl k v = pt P Q a bb) (hb0 : 0 < bb) (hb1 : 0 < hb) (e : a * hb = bb * ha) : ∃ k' : Int, 0 < k' ∧ pt P Q ha hb = scl k' v := by
  have hsc : 0 < sc P Q := cu_pos hW
  have hd : 0 < (pt P Q ha hb).2.2.2 := Int.mul_pos hsc hb1
  obtain ⟨w, w1, w2, w3⟩ := low4 hd
  have ee : scl hb (pt P Q a bb) = scl bb (pt P Q ha hb) := by
    simp only [scl, pt, Prod.mk.injEq]
    refine ⟨by grind, by grind, by grind, by grind⟩
  have ew : v = w := by
    refine low_u hv w3 (a := hb * k) (b := bb * (g4 (pt P Q ha hb) : Int)) (Int.mul_pos hb1 hk) (Int.mul_pos hb0 (by omega)) ?_
    have s2 : ∀ (x y : Int) (u : Q4), scl (x * y) u = scl x (scl y u) := fun x y u => by
      simp only [scl, Prod.mk.injEq]
      refine ⟨by grind, by grind, by grind, by grind⟩
    rw [s2, s2, h1, ee, ← w2]
  rw [ew]
  exact ⟨_, by omega, w2⟩
/-- the points of the line that are left: corners, and all -/
theorem ends {P Q : Pl} (hW : wy P Q ≠ (0, 0, 0)) {pl : List Pl} {S : Pl → Prop} (hSp : ∀ r, S r ↔ r ∈ pl) (hP : P ∈ pl) (hQ : Q ∈ pl) {la lb ha hb : Int} (h : LI P Q S la lb ha hb) :
    (0 < lb → ∀ (k : Int) (w : Q4), 0 < k → pt P Q la lb = scl k w → rdc w → isC pl w) ∧ (0 < hb → ∀ (k : Int) (w : Q4), 0 < k → pt P Q ha hb = scl k w → rdc w → isC pl w) ∧
    ∀ v, isC pl v → sd P v = 0 → sd Q v = 0 → (0 < lb ∧ ∃ k : Int, 0 < k ∧ pt P Q la lb = scl k v) ∨ (0 < hb ∧ ∃ k : Int, 0 < k ∧ pt P Q ha hb = scl k v) := by
  have mk : ∀ (a bb k : Int) (w : Q4), 0 < k → pt P Q a bb = scl k w → rdc w → (∀ r ∈ pl, a * cb P Q r - bb * rm P Q r ≤ 0) → (∃ r ∈ pl, cb P Q r ≠ 0 ∧ a * cb P Q r - bb * rm P Q r = 0) → isC pl w := fun a bb k w hk e hw hle hr => by
    have sg : ∀ r : Pl, k * sd r w = a * cb P Q r - bb * rm P Q r := fun r => by rw [← sd_pt, e, sd_scl]
    have z : ∀ r : Pl, sd r (pt P Q a bb) = 0 → sd r w = 0 := fun r hr => by
      rw [e, sd_scl] at hr
      rcases Int.mul_eq_zero.mp hr with y | y
      · omega
      · exact y
    obtain ⟨r, r1, r2, r3⟩ := hr
    refine ⟨hw, fun s hs => ?_, P, hP, Q, hQ, r, r1, by rw [dt3_c]; exact r2, z P (pt_1 P Q a bb), z Q (pt_2 P Q a bb), z r (by rw [sd_pt]; exact r3)⟩
    have s1 := hle s hs
    rw [← sg] at s1
    rcases i_log 0 (sd s w) with y | y
    · have := Int.mul_pos hk y; omega
    · exact y
  refine ⟨fun hl k w hk e hw => mk la lb k w hk e hw (fun r hr => LI_lo h hl ((hSp r).mpr hr)) ?_, fun hh k w hk e hw => mk ha hb k w hk e hw (fun r hr => LI_hi h hh ((hSp r).mpr hr)) ?_, fun v hv eP eQ => ?_⟩
  · rcases h.1 with ⟨z, -⟩ | ⟨-, r, r1, r2, r3, r4⟩
    · omega
    · exact ⟨r, (hSp r).mp r1, by omega, by rw [r3, r4]; grind⟩
  · rcases h.2.1 with ⟨z, -⟩ | ⟨-, r, r1, r2, r3, r4⟩
    · omega
    · exact ⟨r, (hSp r).mp r1, by omega, by rw [r3, r4]; grind⟩
  · obtain ⟨a, bb, k, hbb, hk, e⟩ := pt_ex hW eP eQ hv.1.1
    have sg : ∀ r : Pl, k * sd r v = a * cb P Q r - bb * rm P Q r := fun r => by rw [← sd_pt, ← e, sd_scl]
    have le : ∀ r ∈ pl, a * cb P Q r - bb * rm P Q r ≤ 0 := fun r hr => by
      rw [← sg]
      exact Int.mul_nonpos_of_nonneg_of_nonpos (by omega) (hv.2.1 r hr)
    have ex : ∃ r ∈ pl, sd r v = 0 ∧ cb P Q r ≠ 0 := by
      obtain ⟨-, -, p, hp, q, hq, r, hr, hd, ep, eq, er⟩ := hv
      by_cases z1 : cb P Q p = 0
      · by_cases z2 : cb P Q q = 0
        · by_cases z3 : cb P Q r = 0
          · exact absurd (u_0 hd z1 z2 z3) hW
          · exact ⟨r, hr, er, z3⟩
        · exact ⟨q, hq, eq, z2⟩
      · exact ⟨p, hp, ep, z1⟩
    obtain ⟨r, r1, r2, r3⟩ := ex
    have tight := sg r
    rw [r2, Int.mul_zero] at tight
    obtain ⟨k1, k2, -⟩ := h.2.2.1 r ((hSp r).mpr r1)
    rcases (show 0 < cb P Q r ∨ cb P Q r < 0 by omega) with c | c
    · right
      obtain ⟨c1, c2⟩ := k1 c
      refine ⟨c1, pt_par hW hv.1 hk e hbb c1 ?_⟩
      rcases h.2.1 with ⟨z, -⟩ | ⟨-, s, s1, s2, s3, s4⟩
      · omega
      · have l1 := le s ((hSp s).mp s1)
        rw [← s3, ← s4] at l1
        have l2 : bb * (ha * cb P Q r) ≤ bb * (rm P Q r * hb) := Int.mul_le_mul_of_nonneg_left c2 (by omega)
        have l3 : (bb * ha) * cb P Q r ≤ (a * hb) * cb P Q r := by grind
        have l4 := Int.le_of_mul_le_mul_right l3 c
        omega
    · left
      obtain ⟨c1, c2⟩ := k2 c
      refine ⟨c1, pt_par hW hv.1 hk e hbb c1 ?_⟩
      rcases h.1 with ⟨z, -⟩ | ⟨-, s, s1, s2, s3, s4⟩
      · omega
      · have l1 := le s ((hSp s).mp s1)
        have l1' : bb * la ≤ a * lb := by rw [s3, s4]; grind
        have l2 : bb * (la * cb P Q r) ≤ bb * (rm P Q r * lb) := Int.mul_le_mul_of_nonneg_left c2 (by omega)
        have l3 : (a * lb) * (- cb P Q r) ≤ (bb * la) * (- cb P Q r) := by grind
        have l4 := Int.le_of_mul_le_mul_right l3 (by omega)
        omega
theorem no_v {P Q : Pl} (hW : wy P Q ≠ (0, 0, 0)) {pl : List Pl} {S : Pl → Prop} (hSp : ∀ r, S r → r ∈ pl) (h : LN P Q S) {v : Q4} (hv : inC pl v) (eP : sd P v = 0) (eQ : sd Q v = 0) : False := by
  obtain ⟨a, bb, k, hbb, hk, e⟩ := pt_ex hW eP eQ hv.1
  obtain ⟨r, r1, r2⟩ := h a bb hbb
  rw [← sd_pt, ← e, sd_scl] at r2
  have := Int.mul_nonpos_of_nonneg_of_nonpos (show 0 ≤ k by omega) (hv.2 r (hSp r r1))
  omega
