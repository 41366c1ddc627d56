def mt0 (t : Nat) (h k l : Int32) : Int32 := if t = 3 then -k else if t = 4 then l else if t = 5 then k else -h
def mt1 (t : Nat) (h k l : Int32) : Int32 := if t = 0 then -k else if t = 1 then k else if t = 2 then -k else h
def mt2 (t : Nat) (h k l : Int32) : Int32 := if t = 0 then -l else if t = 4 then k else l
theorem mturn {t : Nat} (ht : t < 6) (h k l : Int32) (I : Nat → Int32) (A : Nat → Nat → Int32) (L : Nat → Int64) : ∃ row, f_X7_turns (Int32.ofNat t) h k l I A L = some (I, va_up A 69 row, L) ∧ row 0 = mt0 t h k l ∧ row 1 = mt1 t h k l ∧ row 2 = mt2 t h k l := by
  rcases (show t = 0 ∨ t = 1 ∨ t = 2 ∨ t = 3 ∨ t = 4 ∨ t = 5 by omega) with rfl | rfl | rfl | rfl | rfl | rfl
  · exact ⟨upd (upd (upd (A 69) 0 (-h)) 1 (-k)) 2 (-l), by show some (I, va_up (va_up (va_up A 69 _) 69 _) 69 _, L) = _; rw [uu, uu, us, us]; rfl, rfl, rfl, rfl⟩
  · exact ⟨upd (upd (upd (A 69) 0 (-h)) 1 k) 2 l, by show some (I, va_up (va_up (va_up A 69 _) 69 _) 69 _, L) = _; rw [uu, uu, us, us]; rfl, rfl, rfl, rfl⟩
  · exact ⟨upd (upd (upd (A 69) 0 (-h)) 1 (-k)) 2 l, by show some (I, va_up (va_up (va_up A 69 _) 69 _) 69 _, L) = _; rw [uu, uu, us, us]; rfl, rfl, rfl, rfl⟩
  · exact ⟨upd (upd (upd (A 69) 0 (-k)) 1 h) 2 l, by show some (I, va_up (va_up (va_up A 69 _) 69 _) 69 _, L) = _; rw [uu, uu, us, us]; rfl, rfl, rfl, rfl⟩
  · exact ⟨upd (upd (upd (A 69) 0 l) 1 h) 2 k, by show some (I, va_up (va_up (va_up A 69 _) 69 _) 69 _, L) = _; rw [uu, uu, us, us]; rfl, rfl, rfl, rfl⟩
  · exact ⟨upd (upd (upd (A 69) 0 k) 1 h) 2 l, by show some (I, va_up (va_up (va_up A 69 _) 69 _) 69 _, L) = _; rw [uu, uu, us, us]; rfl, rfl, rfl, rfl⟩
def mchk (t c : Nat) : Bool :=
  let x := Int32.ofNat c
  let h := (x / 49) - 3
  let k := ((x / 7) - (x / 7) / 7 * 7) - 3
  let l := (x - x / 7 * 7) - 3
  ((((49 * (mt0 t h k l + 3)) + (7 * (mt1 t h k l + 3))) + mt2 t h k l) + 3) == Int32.ofNat (tn t c)
theorem mchk_ok : ∀ t, t < 6 → ∀ c, c < 343 → mchk t c = true := by decide +kernel
/-- how many of the row -/
def cnt (f : Nat → Int32) : Nat := (List.range 343).countP (fun c => f c == 1)
theorem cnt_g {f : Nat → Int32} {d : Nat} (hd : ¬ f d = 1) : ∀ (l : List Nat), l.Nodup → l.countP (fun c => upd f d 1 c == 1) = l.countP (fun c => f c == 1) + (if d ∈ l then 1 else 0)
  | [], _ => by simp
  | c :: l, hn => by
    rw [List.nodup_cons] at hn
    rw [List.countP_cons, List.countP_cons, cnt_g hd l hn.2]
    by_cases e : c = d
    · subst e
      rw [ds, if_neg hn.1]
      have : (f c == 1) = false := by simpa using hd
      simp [this]
    · rw [dn _ _ e]
      have : (d ∈ c :: l) ↔ d ∈ l := by
        rw [List.mem_cons]
        exact ⟨fun h => h.elim (fun q => absurd q.symm e) id, Or.inr⟩
      by_cases hm : d ∈ l
      · rw [if_pos hm, if_pos (this.mpr hm)]; omega
      · rw [if_neg hm, if_neg (fun q => hm (this.mp q))]; omega
theorem cnt_up {f : Nat → Int32} {d : Nat} (hd : d < 343) (h : ¬ f d = 1) : cnt (upd f d 1) = cnt f + 1 := by
  unfold cnt
  rw [cnt_g h _ List.nodup_range, if_pos (List.mem_range.mpr hd)]
theorem cnt_len (f : Nat → Int32) : cnt f = ((List.range 343).filter (fun c => f c == 1)).length := List.countP_eq_length_filter
def mfam (T c0 : Nat) (f : Nat → Int32) (n : Int32) : Prop := (∀ c, c < 343 → f c = 0 ∨ f c = 1) ∧ f c0 = 1 ∧ (∀ c, c < 343 → f c = 1 → rch T c0 c) ∧ n = Int32.ofNat (cnt f)
theorem mfam_48 {T c0 : Nat} {f : Nat → Int32} {n : Int32} (h0 : c0 < 343) (h : mfam T c0 f n) : cnt f ≤ 48 := by
  rw [cnt_len]
  refine fam_48 (T := T) h0 (List.Pairwise.filter _ List.nodup_range) (fun c hc => ?_)
  obtain ⟨a, b⟩ := List.mem_filter.mp hc
  exact h.2.2.1 c (List.mem_range.mp a) (eq_of_beq b)
/-- from (f, more) to (g, more'): nothing goes; where more' is 0 nothing came; else it is 1, and something has come or more was 1 -/
def mst (f g : Nat → Int32) (m m' : Int32) : Prop := (∀ c, f c = 1 → g c = 1) ∧ ((m' = 0 ∧ m = 0 ∧ g = f) ∨ (m' = 1 ∧ (m = 1 ∨ cnt f < cnt g)))
theorem mst_tr {f g h : Nat → Int32} {a b c : Int32} (h1 : mst f g a b) (h2 : mst g h b c) (hm : cnt g ≤ cnt h) (hm0 : cnt f ≤ cnt g) : mst f h a c := by
  refine ⟨fun x hx => h2.1 x (h1.1 x hx), ?_⟩
  rcases h2.2 with ⟨q1, q2, q3⟩ | ⟨q1, q2⟩
  · rcases h1.2 with ⟨p1, p2, p3⟩ | ⟨p1, p2⟩
    · exact Or.inl ⟨q1, p2, by rw [q3, p3]⟩
    · rw [p1] at q2; exact absurd q2 (by decide)
  · right
    refine ⟨q1, ?_⟩
    rcases q2 with q2 | q2
    · rcases h1.2 with ⟨p1, p2, p3⟩ | ⟨p1, p2⟩
      · rw [p1] at q2; exact absurd q2 (by decide)
      · rcases p2 with p2 | p2
        · exact Or.inl p2
        · exact Or.inr (by omega)
    · exact Or.inr (by omega)
theorem c3 {τ : Type} {F : Option τ} : g_ck 0 3 (g_ck 1 3 (g_ck 2 3 F)) = F := rfl
theorem m80_l {T c0 c : Nat} (hT : T < 64) (h0 : c0 < 343) (hc : c < 343) (k58 : Int32 → Int32 → Int32 → (Nat → Int32) → (Nat → Nat → Int32) → (Nat → Int64) → Option (Int32 × gS)) (k69 : Int32 → Int32 → Int32 → Int32 → (Nat → Int32) → (Nat → Nat → Int32) → (Nat → Int64) → Option (Int32 × gS)) : ∀ (n t : Nat) (x5 x6 : Int32) (I : Nat → Int32) (A : Nat → Nat → Int32) (L : Nat → Int64), t ≤ 6 → 6 - t < n → mfam T c0 (A 67) x5 → (x6 = 0 ∨ x6 = 1) → ∃ y5 y6 A', f_X7_laysFamily_p80 k58 k69 n (Int32.ofNat T) x5 x6 (Int32.ofNat c) (Int32.ofNat t) I A L = k69 (Int32.ofNat T) y5 y6 (Int32.ofNat (c + 1)) I A' L ∧ mfam T c0 (A' 67) y5 ∧ mst (A 67) (A' 67) x6 y6 ∧ cnt (A 67) ≤ cnt (A' 67) ∧ (A 67 c = 1 → ∀ u, t ≤ u → u < 6 → bit T u = true → A' 67 (tn u c) = 1) ∧ ∀ r, r ≠ 67 → r ≠ 69 → A' r = A r := by
  intro n
  induction n with
  | zero => intro t x5 x6 I A L h1 h2; omega
  | succ n ih =>
    intro t x5 x6 I A L h1 h2 hf hx6
    have stay : mst (A 67) (A 67) x6 x6 := ⟨fun _ h => h, hx6.elim (fun e => Or.inl ⟨e, e, rfl⟩) (fun e => Or.inr ⟨e, Or.inl e⟩)⟩
    rw [f_X7_laysFamily_p80_e, i_1]
    by_cases ht : t = 6
    · subst ht
      rw [if_pos (by decide)]
      exact ⟨x5, x6, A, rfl, hf, stay, Nat.le_refl _, fun _ u a b => by omega, fun _ _ _ => rfl⟩
    · rw [if_neg (show ¬ (6 : Int32) ≤ Int32.ofNat t from o_nle (a := 6) (by omega) (by omega) (by omega)), o_ck hc (by omega), i_tnn (by omega)]
      rcases hf.1 c hc with hz | hz
      · rw [if_pos hz]
        exact ⟨x5, x6, A, rfl, hf, stay, Nat.le_refl _, fun q => by rw [hz] at q; exact absurd q (by decide), fun _ _ _ => rfl⟩
      · rw [if_neg (by rw [hz]; decide)]
        obtain ⟨row, e1, e2, e3, e4⟩ := mturn (t := t) (by omega) ((Int32.ofNat c / 49) - 3) (((Int32.ofNat c / 7) - (Int32.ofNat c / 7) / 7 * 7) - 3) ((Int32.ofNat c - Int32.ofNat c / 7 * 7) - 3) I A L
        have e5 := eq_of_beq (mchk_ok t (by omega) c hc)
        have e5 : (((49 * (row 0 + 3)) + (7 * (row 1 + 3))) + row 2) + 3 = Int32.ofNat (tn t c) := by rw [e2, e3, e4]; exact e5
        have htn := tn_lt t (by omega) c hc
        rw [e1, b1_some, c3, g_lt_eq, i_1]
        rw [show (((49 * ((va_up A 69 row 69 (Int32.toNatClampNeg 0)) + 3)) + (7 * ((va_up A 69 row 69 (Int32.toNatClampNeg 1)) + 3))) + (va_up A 69 row 69 (Int32.toNatClampNeg 2))) + 3 = Int32.ofNat (tn t c) from e5]
        have h67 : va_up A 69 row 67 = A 67 := un _ _ (by omega)
        by_cases hb : bit T t = true
        · rw [if_pos ((bit_i hT (by omega)).mpr hb), o_ck htn (by omega), i_tnn (by omega), h67]
          rcases hf.1 _ htn with hq | hq
          · rw [if_pos hq, o_ck htn (by omega), g_lt_eq, show vp_nar .boolean 1 = 1 from rfl]
            have hr := rch_t (hf.2.2.1 c hc hz) (show t < 6 by omega) hb
            have hne : ¬ A 67 (tn t c) = 1 := by rw [hq]; decide
            have hcu := cnt_up htn hne
            have hle := mfam_48 h0 hf
            have hf1 : mfam T c0 (upd (A 67) (tn t c) 1) (x5 + 1) := by
              refine ⟨fun d hd => ?_, ?_, fun d hd hv => ?_, by rw [hf.2.2.2, i_1, hcu]⟩
              · by_cases e : d = tn t c
                · rw [e, ds]; exact Or.inr rfl
                · rw [dn _ _ e]; exact hf.1 d hd
              · by_cases e : c0 = tn t c
                · rw [← e, ds]
                · rw [dn _ _ e]; exact hf.2.1
              · by_cases e : d = tn t c
                · rw [e]; exact hr
                · rw [dn _ _ e] at hv; exact hf.2.2.1 d hd hv
            have hmono : ∀ d, A 67 d = 1 → upd (A 67) (tn t c) 1 d = 1 := fun d hv => by
              by_cases e : d = tn t c
              · rw [e, ds]
              · rw [dn _ _ e]; exact hv
            obtain ⟨y5, y6, A', m1, m2, m3, m4, m5, m6⟩ := ih (t + 1) (x5 + 1) 1 I (va_up (va_up A 69 row) 67 (upd (A 67) (tn t c) 1)) L (by omega) (by omega) (by rw [us]; exact hf1) (Or.inr rfl)
            rw [us] at m3 m4 m5
            have s1 : mst (A 67) (upd (A 67) (tn t c) 1) x6 1 := ⟨hmono, Or.inr ⟨rfl, Or.inr (by omega)⟩⟩
            refine ⟨y5, y6, A', m1, m2, mst_tr s1 m3 m4 (by omega), by omega, fun _ u a1 a2 a3 => ?_, fun r a1 a2 => by rw [m6 r a1 a2, un _ _ a1, un _ _ a2]⟩
            by_cases e : u = t
            · rw [e]; exact m3.1 _ (ds _ _ _)
            · exact m5 (hmono c hz) u (by omega) a2 a3
          · rw [if_neg (by rw [hq]; decide)]
            obtain ⟨y5, y6, A', m1, m2, m3, m4, m5, m6⟩ := ih (t + 1) x5 x6 I (va_up A 69 row) L (by omega) (by omega) (by rw [h67]; exact hf) hx6
            rw [h67] at m3 m4 m5
            refine ⟨y5, y6, A', m1, m2, m3, m4, fun _ u a1 a2 a3 => ?_, fun r a1 a2 => by rw [m6 r a1 a2, un _ _ a2]⟩
            by_cases e : u = t
            · rw [e]; exact m3.1 _ hq
            · exact m5 hz u (by omega) a2 a3
        · rw [if_neg (fun q => hb ((bit_i hT (by omega)).mp q))]
          obtain ⟨y5, y6, A', m1, m2, m3, m4, m5, m6⟩ := ih (t + 1) x5 x6 I (va_up A 69 row) L (by omega) (by omega) (by rw [h67]; exact hf) hx6
          rw [h67] at m3 m4 m5
          refine ⟨y5, y6, A', m1, m2, m3, m4, fun _ u a1 a2 a3 => ?_, fun r a1 a2 => by rw [m6 r a1 a2, un _ _ a2]⟩
          by_cases e : u = t
          · rw [e] at a3; exact absurd a3 hb
          · exact m5 hz u (by omega) a2 a3
