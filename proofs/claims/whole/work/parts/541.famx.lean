def zI : Nat → Int32 := fun _ => 0
def zA : Nat → Nat → Int32 := fun _ _ => 0
def zL : Nat → Int64 := fun _ => 0
def tchk (t c : Nat) : Bool :=
  let x := Int32.ofNat (c100 c)
  let v1 := (x / 100) - 3
  let v2 := ((x / 10) - (x / 10) / 10 * 10) - 3
  let v3 := (x - x / 10 * 10) - 3
  match f_X6_turned zI zA zL (Int32.ofNat t) 0 v1 v2 v3, f_X6_turned zI zA zL (Int32.ofNat t) 1 v1 v2 v3, f_X6_turned zI zA zL (Int32.ofNat t) 2 v1 v2 v3 with
  | some a, some b, some d => ((((100 * (a + 3)) + (10 * (b + 3))) + d) + 3) == Int32.ofNat (c100 (tn t c))
  | _, _, _ => false
theorem tchk_ok : ∀ t, t < 6 → ∀ c, c < 343 → tchk t c = true := by decide +kernel
theorem turned_z (I : Nat → Int32) (A : Nat → Nat → Int32) (L : Nat → Int64) (a b c d e : Int32) : f_X6_turned I A L a b c d e = f_X6_turned zI zA zL a b c d e := rfl
theorem turned_s {t c : Nat} (ht : t < 6) (hc : c < 343) : ∃ a b d : Int32, (∀ I A L, f_X6_turned I A L (Int32.ofNat t) 0 ((Int32.ofNat (c100 c) / 100) - 3) (((Int32.ofNat (c100 c) / 10) - (Int32.ofNat (c100 c) / 10) / 10 * 10) - 3) ((Int32.ofNat (c100 c) - Int32.ofNat (c100 c) / 10 * 10) - 3) = some a) ∧ (∀ I A L, f_X6_turned I A L (Int32.ofNat t) 1 ((Int32.ofNat (c100 c) / 100) - 3) (((Int32.ofNat (c100 c) / 10) - (Int32.ofNat (c100 c) / 10) / 10 * 10) - 3) ((Int32.ofNat (c100 c) - Int32.ofNat (c100 c) / 10 * 10) - 3) = some b) ∧ (∀ I A L, f_X6_turned I A L (Int32.ofNat t) 2 ((Int32.ofNat (c100 c) / 100) - 3) (((Int32.ofNat (c100 c) / 10) - (Int32.ofNat (c100 c) / 10) / 10 * 10) - 3) ((Int32.ofNat (c100 c) - Int32.ofNat (c100 c) / 10 * 10) - 3) = some d) ∧ (((100 * (a + 3)) + (10 * (b + 3))) + d) + 3 = Int32.ofNat (c100 (tn t c)) := by
  have h := tchk_ok t ht c hc
  unfold tchk at h
  simp only [] at h
  split at h
  next a b d h1 h2 h3 => exact ⟨a, b, d, fun I A L => by rw [turned_z]; exact h1, fun I A L => by rw [turned_z]; exact h2, fun I A L => by rw [turned_z]; exact h3, eq_of_beq h⟩
  next => cases h
theorem bit_s : ∀ T, T < 64 → ∀ t, t < 6 → (((Int32.ofNat T >>> (Int32.ofNat t &&& 31)) &&& 1 == 1) = bit T t) := by decide +kernel
theorem bit_i {T t : Nat} (hT : T < 64) (ht : t < 6) : ((Int32.ofNat T >>> (Int32.ofNat t &&& 31)) &&& 1) = 1 ↔ bit T t = true := by
  rw [← bit_s T hT t ht, beq_iff_eq]
def famX (n : Int32) (known codes : Nat → Int32) (cs : List Nat) : Prop := n = Int32.ofNat cs.length ∧ (∀ i, i < cs.length → codes i = Int32.ofNat (c100 (cs.getD i 0))) ∧ (∀ c ∈ cs, known (c100 c) = 1) ∧ (∀ x, x < 667 → (∀ c ∈ cs, c100 c ≠ x) → known x = 0)
theorem note_s {I : Nat → Int32} {A : Nat → Nat → Int32} {L : Nat → Int64} {a b d : Int32} {c : Nat} {cs : List Nat} (hc : c < 343) (he : (((100 * (a + 3)) + (10 * (b + 3))) + d) + 3 = Int32.ofNat (c100 c)) (h : famX (I 866) (A 55) (A 56) cs) (hcs : ∀ c ∈ cs, c < 343) (h48 : c ∉ cs → cs.length < 48) : ∃ I' A' ext, f_X0_note a b d I A L = some (I', A', L) ∧ famX (I' 866) (A' 55) (A' 56) (cs ++ ext) ∧ (ext = [] ∧ c ∈ cs ∨ ext = [c] ∧ c ∉ cs) ∧ (∀ i, i ≠ 866 → I' i = I i) ∧ ∀ r, r ≠ 55 → r ≠ 56 → A' r = A r := by
  obtain ⟨h1, h2, h3, h4⟩ := h
  have hx := c100_lt c hc
  unfold f_X0_note
  rw [g_lt_eq, he, if_neg (show ¬ Int32.ofNat (c100 c) < 0 from by rw [i_lt, i_nat (by omega)]; show ¬ (c100 c : Int) < 0; omega), if_neg (show ¬ (667 : Int32) ≤ Int32.ofNat (c100 c) from o_nle (a := 667) (by omega) (by omega) hx), o_ck hx (by omega), i_tnn (by omega)]
  by_cases hm : c ∈ cs
  · rw [if_neg (by rw [h3 c hm]; decide)]
    exact ⟨I, A, [], rfl, by rw [List.append_nil]; exact ⟨h1, h2, h3, h4⟩, Or.inl ⟨rfl, hm⟩, fun _ _ => rfl, fun _ _ _ => rfl⟩
  · have hl := h48 hm
    have h0 : A 55 (c100 c) = 0 := h4 _ hx (fun e he hq => hm (by rw [← c100_inj e (hcs e he) c hc hq]; exact he))
    rw [if_pos h0, h1, if_neg (show ¬ (48 : Int32) ≤ Int32.ofNat cs.length from o_nle (a := 48) (by omega) (by omega) hl), o_ck hx (by omega), g_lt_eq, o_ck hl (by omega), g_lt_eq, g_lt_eq, i_1, i_tnn (by omega), show vp_nar .byte 1 = 1 from rfl]
    refine ⟨_, _, [c], rfl, ⟨?_, fun i hi => ?_, fun e he => ?_, fun x hx2 hne => ?_⟩, Or.inr ⟨rfl, hm⟩, fun i hi => un _ _ hi, fun r a1 a2 => by rw [un _ _ a2, un _ _ a1]⟩
    · rw [us, List.length_append]; rfl
    · rw [us, un _ _ (by omega)]
      rw [List.length_append] at hi
      have hi : i < cs.length + 1 := hi
      by_cases e : i = cs.length
      · subst e
        rw [ds, List.getD_eq_getElem?_getD, List.getElem?_append_right (by omega)]; simp
      · rw [dn _ _ e, h2 i (by omega), List.getD_eq_getElem?_getD, List.getD_eq_getElem?_getD, List.getElem?_append_left (by omega)]
    · rw [un _ _ (by omega), us]
      rcases List.mem_append.mp he with he | he
      · by_cases q : c100 e = c100 c
        · rw [q, ds]
        · rw [dn _ _ q]; exact h3 e he
      · rw [List.mem_singleton] at he
        rw [he, ds]
    · rw [un _ _ (by omega), us, dn _ _ (fun q => hne c (List.mem_append_right _ (List.mem_singleton.mpr rfl)) q.symm)]
      exact h4 x hx2 (fun e he => hne e (List.mem_append_left _ he))
/-- what a list of the family so far is -/
def fok (T c0 : Nat) (cs : List Nat) : Prop := cs.Nodup ∧ (∀ c ∈ cs, rch T c0 c) ∧ c0 ∈ cs
theorem fok_lt {T c0 : Nat} {cs : List Nat} (h0 : c0 < 343) (h : fok T c0 cs) : ∀ c ∈ cs, c < 343 := fun c hc => (rch_lt h0 (h.2.1 c hc)).1
theorem fok_add {T c0 c : Nat} {cs : List Nat} (h : fok T c0 cs) (hc : rch T c0 c) (hn : c ∉ cs) : fok T c0 (cs ++ [c]) := by
  refine ⟨?_, fun d hd => ?_, List.mem_append_left _ h.2.2⟩
  · rw [List.nodup_append]
    refine ⟨h.1, by simp, fun a ha b hb q => ?_⟩
    rw [List.mem_singleton] at hb
    exact hn (by rw [← hb, ← q]; exact ha)
  · rcases List.mem_append.mp hd with hd | hd
    · exact h.2.1 d hd
    · rw [List.mem_singleton] at hd
      rw [hd]; exact hc
theorem fok_48 {T c0 c : Nat} {cs : List Nat} (h0 : c0 < 343) (h : fok T c0 cs) (hc : rch T c0 c) (hn : c ∉ cs) : cs.length < 48 := by
  have h1 := fok_add h hc hn
  have := fam_48 h0 h1.1 h1.2.1
  rw [List.length_append] at this
  have : cs.length + 1 ≤ 48 := this
  omega
theorem noteT_l {T c0 c : Nat} (hT : T < 64) (h0 : c0 < 343) (hc : rch T c0 c) : ∀ (n t : Nat) (I : Nat → Int32) (A : Nat → Nat → Int32) (L : Nat → Int64) (cs : List Nat), t ≤ 6 → 6 - t < n → fok T c0 cs → famX (I 866) (A 55) (A 56) cs → ∃ I' A' ext, f_X0_noteTurned_p29 n (Int32.ofNat T) ((Int32.ofNat (c100 c) / 100) - 3) (((Int32.ofNat (c100 c) / 10) - (Int32.ofNat (c100 c) / 10) / 10 * 10) - 3) ((Int32.ofNat (c100 c) - Int32.ofNat (c100 c) / 10 * 10) - 3) (Int32.ofNat t) I A L = some (I', A', L) ∧ fok T c0 (cs ++ ext) ∧ famX (I' 866) (A' 55) (A' 56) (cs ++ ext) ∧ (∀ u, t ≤ u → u < 6 → bit T u = true → tn u c ∈ cs ++ ext) ∧ (∀ i, i ≠ 866 → I' i = I i) ∧ ∀ r, r ≠ 55 → r ≠ 56 → A' r = A r := by
  have hc343 := (rch_lt h0 hc).1
  intro n
  induction n with
  | zero => intro t I A L cs h1 h2; omega
  | succ n ih =>
    intro t I A L cs h1 h2 hf hx
    rw [f_X0_noteTurned_p29_e]
    by_cases ht : t = 6
    · subst ht
      rw [if_pos (by decide)]
      exact ⟨I, A, [], rfl, by rw [List.append_nil]; exact hf, by rw [List.append_nil]; exact hx, fun u a b => by omega, fun _ _ => rfl, fun _ _ _ => rfl⟩
    · rw [if_neg (show ¬ (6 : Int32) ≤ Int32.ofNat t from o_nle (a := 6) (by omega) (by omega) (by omega)), i_1]
      by_cases hb : bit T t = true
      · rw [if_pos ((bit_i hT (by omega)).mpr hb)]
        obtain ⟨a, b, d, e1, e2, e3, e4⟩ := turned_s (t := t) (c := c) (by omega) hc343
        have hr := rch_t hc (show t < 6 by omega) hb
        obtain ⟨I1, A1, x1, n1, n2, n3, n4, n5⟩ := note_s (L := L) (rch_lt h0 hr).1 e4 hx (fok_lt h0 hf) (fun q => fok_48 h0 hf hr q)
        rw [e1, bd_some, e2, bd_some, e3, bd_some, n1, b1_some]
        have hf1 : fok T c0 (cs ++ x1) := by
          rcases n3 with ⟨q1, q2⟩ | ⟨q1, q2⟩
          · rw [q1, List.append_nil]; exact hf
          · rw [q1]; exact fok_add hf hr q2
        have hin : tn t c ∈ cs ++ x1 := by
          rcases n3 with ⟨q1, q2⟩ | ⟨q1, q2⟩
          · exact List.mem_append_left _ q2
          · rw [q1]; exact List.mem_append_right _ (List.mem_singleton.mpr rfl)
        obtain ⟨I2, A2, x2, m1, m2, m3, m4, m5, m6⟩ := ih (t + 1) I1 A1 L (cs ++ x1) (by omega) (by omega) hf1 n2
        rw [List.append_assoc] at m2 m3 m4
        refine ⟨I2, A2, x1 ++ x2, m1, m2, m3, fun u a1 a2 a3 => ?_, fun i hi => by rw [m5 i hi, n4 i hi], fun r a1 a2 => by rw [m6 r a1 a2, n5 r a1 a2]⟩
        by_cases e : u = t
        · rw [e, ← List.append_assoc]
          exact List.mem_append_left _ hin
        · exact m4 u (by omega) a2 a3
      · rw [if_neg (fun q => hb ((bit_i hT (by omega)).mp q))]
        obtain ⟨I2, A2, x2, m1, m2, m3, m4, m5, m6⟩ := ih (t + 1) I A L cs (by omega) (by omega) hf hx
        refine ⟨I2, A2, x2, m1, m2, m3, fun u a1 a2 a3 => ?_, m5, m6⟩
        by_cases e : u = t
        · rw [e] at a3
          exact absurd a3 hb
        · exact m4 u (by omega) a2 a3
