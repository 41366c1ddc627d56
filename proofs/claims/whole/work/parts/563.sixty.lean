def q0 : Q4 := (0, 0, 0, 0)
theorem vD_mem {vs : List Q4} {i : Nat} (hi : i < vs.length) : vs.getD i q0 ∈ vs := by
  rw [List.getD_eq_getElem?_getD, List.getElem?_eq_getElem hi]
  exact List.getElem_mem hi
theorem vD_ex {vs : List Q4} {v : Q4} (h : v ∈ vs) : ∃ i, i < vs.length ∧ vs.getD i q0 = v := by
  obtain ⟨i, hi, e⟩ := List.mem_iff_getElem.mp h
  exact ⟨i, hi, by rw [List.getD_eq_getElem?_getD, List.getElem?_eq_getElem hi]; exact e⟩
theorem pD_ex {pl : List Pl} {p : Pl} (h : p ∈ pl) : ∃ i, i < pl.length ∧ pl.getD i p0 = p := by
  obtain ⟨i, hi, e⟩ := List.mem_iff_getElem.mp h
  exact ⟨i, hi, by rw [List.getD_eq_getElem?_getD, List.getElem?_eq_getElem hi]; exact e⟩
theorem vD_inj {vs : List Q4} (hn : vs.Nodup) {i j : Nat} (hi : i < vs.length) (hj : j < vs.length) (h : vs.getD i q0 = vs.getD j q0) : i = j := by
  rw [List.getD_eq_getElem?_getD, List.getElem?_eq_getElem hi, List.getD_eq_getElem?_getD, List.getElem?_eq_getElem hj] at h
  exact (List.getElem_inj hn).mp h
theorem dt3_12 (p r : Pl) : dt3 p p r = 0 := by simp only [dt3]; grind
theorem dt3_13 (p r : Pl) : dt3 p r p = 0 := by simp only [dt3]; grind
theorem dt3_23 (p r : Pl) : dt3 r p p = 0 := by simp only [dt3]; grind
theorem most {vs : List Q4} (c : V3) (h : ∀ v ∈ vs, 0 < v.2.2.2) (hne : vs ≠ []) : ∃ v ∈ vs, ∀ w ∈ vs, leV c w v := by
  obtain ⟨x, xs, e⟩ := List.exists_cons_of_ne_nil hne
  obtain ⟨v, hv, hk, hm⟩ := least_r (fun v : Q4 => v.2.2.2) (fun v => - cw c v) vs ⟨x, by rw [e]; simp, h x (by rw [e]; simp)⟩
  refine ⟨v, hv, fun w hw => ?_⟩
  have := hm w hw (h w hw)
  have this : - cw c v * w.2.2.2 ≤ - cw c w * v.2.2.2 := this
  unfold leV
  grind
def neg (c : V3) : V3 := neg3 c
theorem leV_neg (c : V3) (v w : Q4) : leV (neg3 c) v w ↔ leV c w v := by
  unfold leV
  have a : ∀ x, cw (neg3 c) x = - cw c x := fun x => by simp only [cw, neg3]; grind
  rw [a, a]
  constructor
  · intro h; grind
  · intro h; grind
/-- the last by c on plane p is corner j -/
def Tp (pl : List Pl) (vs : List Q4) (c : V3) (p j : Nat) : Prop := sd (pl.getD p p0) (vs.getD j q0) = 0 ∧ ∀ w ∈ vs, sd (pl.getD p p0) w = 0 → leV c w (vs.getD j q0)
theorem Tp_u {pl : List Pl} {vs : List Q4} {c : V3} (hn : vs.Nodup) (hc : inj c vs) {p i j : Nat} (hi : i < vs.length) (hj : j < vs.length) (a : Tp pl vs c p i) (b : Tp pl vs c p j) : i = j := vD_inj hn hi hj (hc _ (vD_mem hi) _ (vD_mem hj) (b.2 _ (vD_mem hi) a.1) (a.2 _ (vD_mem hj) b.1))
theorem inj_neg {c : V3} {vs : List Q4} (h : inj c vs) : inj (neg3 c) vs := fun v hv w hw a b => h v hv w hw ((leV_neg c w v).mp b) ((leV_neg c v w).mp a)
/-- three planes, by number, at a corner -/
theorem crn3 {pl : List Pl} {v : Q4} (h : isC pl v) : ∃ i j k, i < pl.length ∧ j < pl.length ∧ k < pl.length ∧ i ≠ j ∧ i ≠ k ∧ j ≠ k ∧ sd (pl.getD i p0) v = 0 ∧ sd (pl.getD j p0) v = 0 ∧ sd (pl.getD k p0) v = 0 := by
  obtain ⟨-, -, p, hp, q, hq, r, hr, hd, ep, eq, er⟩ := h
  obtain ⟨i, hi, rfl⟩ := pD_ex hp
  obtain ⟨j, hj, rfl⟩ := pD_ex hq
  obtain ⟨k, hk, rfl⟩ := pD_ex hr
  refine ⟨i, j, k, hi, hj, hk, ?_, ?_, ?_, ep, eq, er⟩
  · intro e; rw [e, dt3_12] at hd; exact hd rfl
  · intro e; rw [e, dt3_13] at hd; exact hd rfl
  · intro e; rw [e, dt3_23] at hd; exact hd rfl
/-- at most 2 F - 4 corners -/
theorem sixty {pl : List Pl} {vs : List Q4} (hl : pl.length ≤ 32) (hn : vs.Nodup) (hv : ∀ v ∈ vs, isC pl v) : vs.length ≤ 60 := by
  rcases Nat.lt_or_ge vs.length 2 with h2 | h2
  · omega
  obtain ⟨c, hc⟩ := order_ex vs (fun v h => (hv v h).1)
  have hne : vs ≠ [] := fun e => by rw [e] at h2; simp at h2
  have hd : ∀ v ∈ vs, 0 < v.2.2.2 := fun v h => (hv v h).1.1
  obtain ⟨v1, hv1, hm1⟩ := most c hd hne
  obtain ⟨v2, hv2, hm2⟩ := most (neg3 c) hd hne
  obtain ⟨j1, hj1, e1⟩ := vD_ex hv1
  obtain ⟨j2, hj2, e2⟩ := vD_ex hv2
  have hc' := inj_neg hc
  have hne12 : j1 ≠ j2 := by
    intro e
    have e12 : v1 = v2 := by rw [← e1, ← e2, e]
    have all : ∀ w ∈ vs, w = v1 := fun w hw => hc w hw v1 hv1 (hm1 w hw) ((leV_neg c w v1).mp (by rw [e12]; exact hm2 w hw))
    have := vD_inj hn (show 0 < vs.length by omega) (show 1 < vs.length by omega) (by rw [all _ (vD_mem (by omega)), all _ (vD_mem (i := 1) (by omega))])
    omega
  have up : sm vs.length (fun j => sm pl.length (fun p => ib (Tp pl vs c p j) + ib (Tp pl vs (neg3 c) p j))) ≤ pl.length * 2 := by
    rw [sm_comm, ← sm_k]
    refine sm_le (fun p hp => ?_)
    rw [sm_add]
    have a := sm_le1 (n := vs.length) (P := fun j => Tp pl vs c p j) (fun i j hi hj a b => Tp_u hn hc hi hj a b)
    have b := sm_le1 (n := vs.length) (P := fun j => Tp pl vs (neg3 c) p j) (fun i j hi hj a b => Tp_u hn hc' hi hj a b)
    omega
  have dn : sm vs.length (fun j => (1 + 2 * ib (j = j1)) + 2 * ib (j = j2)) ≤ sm vs.length (fun j => sm pl.length (fun p => ib (Tp pl vs c p j) + ib (Tp pl vs (neg3 c) p j))) := by
    refine sm_le (fun j hj => ?_)
    rw [sm_add]
    by_cases a1 : j = j1
    · rw [ib_1 a1, ib_0 (fun q => hne12 (by omega))]
      obtain ⟨a, b, d, ha, hb, hd', hab, had, hbd, ea, eb, ed⟩ := crn3 (hv v1 hv1)
      have t : ∀ p, sd (pl.getD p p0) v1 = 0 → Tp pl vs c p j := fun p hp => by
        unfold Tp
        rw [a1, e1]
        exact ⟨hp, fun w hw _ => hm1 w hw⟩
      have := sm_ge3 (P := fun p => Tp pl vs c p j) ha hb hd' hab had hbd (t a ea) (t b eb) (t d ed)
      omega
    · by_cases a2 : j = j2
      · rw [ib_0 a1, ib_1 a2]
        obtain ⟨a, b, d, ha, hb, hd', hab, had, hbd, ea, eb, ed⟩ := crn3 (hv v2 hv2)
        have t : ∀ p, sd (pl.getD p p0) v2 = 0 → Tp pl vs (neg3 c) p j := fun p hp => by
          unfold Tp
          rw [a2, e2]
          exact ⟨hp, fun w hw _ => hm2 w hw⟩
        have := sm_ge3 (P := fun p => Tp pl vs (neg3 c) p j) ha hb hd' hab had hbd (t a ea) (t b eb) (t d ed)
        omega
      · rw [ib_0 a1, ib_0 a2]
        obtain ⟨r, hr, er, htb⟩ := tb (hv _ (vD_mem hj)) c
        obtain ⟨p, hp, rfl⟩ := pD_ex hr
        rcases htb with z | z
        · have := sm_ge (n := pl.length) (f := fun p => ib (Tp pl vs c p j)) hp
          have t : Tp pl vs c p j := ⟨er, fun w hw ew => z w (isC_in (hv w hw)) ew⟩
          have this : ib (Tp pl vs c p j) ≤ _ := this
          rw [ib_1 t] at this
          omega
        · have := sm_ge (n := pl.length) (f := fun p => ib (Tp pl vs (neg3 c) p j)) hp
          have t : Tp pl vs (neg3 c) p j := ⟨er, fun w hw ew => (leV_neg c _ _).mpr (z w (isC_in (hv w hw)) ew)⟩
          have this : ib (Tp pl vs (neg3 c) p j) ≤ _ := this
          rw [ib_1 t] at this
          omega
  have m2 : ∀ n f, sm n (fun j => 2 * f j) = 2 * sm n f := fun n f => by
    rw [sm_eq (g := fun j => f j + f j) (fun j _ => by omega), sm_add]; omega
  rw [sm_add, sm_add, sm_k, m2, m2, sm_eq1 (P := fun j => j = j1) hj1 rfl (fun j _ q => q), sm_eq1 (P := fun j => j = j2) hj2 rfl (fun j _ q => q)] at dn
  omega
