/-! FAMILIES. A sign as a number c below 343: 49 (h + 3) + 7 (k + 3) + l + 3. -/
def ch (c : Nat) : Nat := c / 49
def ck (c : Nat) : Nat := c / 7 % 7
def cl (c : Nat) : Nat := c % 7
def c100 (c : Nat) : Nat := 100 * ch c + 10 * ck c + cl c
def mk3 (a b c : Nat) : Nat := 49 * a + 7 * b + c
/-- what comes of a sign by a turn -/
def tn (t c : Nat) : Nat :=
  if t = 0 then mk3 (6 - ch c) (6 - ck c) (6 - cl c) else if t = 1 then mk3 (6 - ch c) (ck c) (cl c) else if t = 2 then mk3 (6 - ch c) (6 - ck c) (cl c) else if t = 3 then mk3 (6 - ck c) (ch c) (cl c) else if t = 4 then mk3 (cl c) (ch c) (ck c) else mk3 (ck c) (ch c) (cl c)
def bit (T t : Nat) : Bool := T / 2 ^ t % 2 == 1
/-- all that comes of c0 by the turns of the set T -/
def rch (T c0 c : Nat) : Prop := ∀ S : Nat → Prop, S c0 → (∀ c t, S c → t < 6 → bit T t = true → S (tn t c)) → S c
theorem rch_0 (T c0 : Nat) : rch T c0 c0 := fun _ h _ => h
theorem rch_t {T c0 c t : Nat} (h : rch T c0 c) (ht : t < 6) (hb : bit T t = true) : rch T c0 (tn t c) := fun S h0 hs => hs c t (h S h0 hs) ht hb
theorem tn_lt : ∀ t, t < 6 → ∀ c, c < 343 → tn t c < 343 := by decide +kernel
def key (c : Nat) : Nat := 4 ^ (max (ch c) 3 - min (ch c) 3) + 4 ^ (max (ck c) 3 - min (ck c) 3) + 4 ^ (max (cl c) 3 - min (cl c) 3)
theorem key_tn : ∀ t, t < 6 → ∀ c, c < 343 → key (tn t c) = key c := by decide +kernel
theorem key_48 : ∀ d, d < 343 → ((List.range 343).filter (fun c => key c == key d)).length ≤ 48 := by decide +kernel
theorem rch_lt {T c0 c : Nat} (h0 : c0 < 343) (h : rch T c0 c) : c < 343 ∧ key c = key c0 := h (fun c => c < 343 ∧ key c = key c0) ⟨h0, rfl⟩ (fun c t hc ht _ => ⟨tn_lt t ht c hc.1, by rw [key_tn t ht c hc.1]; exact hc.2⟩)
/-- no family has more than 48 -/
theorem fam_48 {T c0 : Nat} {cs : List Nat} (h0 : c0 < 343) (hn : cs.Nodup) (hr : ∀ c ∈ cs, rch T c0 c) : cs.length ≤ 48 := by
  refine Nat.le_trans (hn.length_le_of_subset (l₂ := (List.range 343).filter (fun c => key c == key c0)) (fun c hc => ?_)) (key_48 c0 h0)
  obtain ⟨a, b⟩ := rch_lt h0 (hr c hc)
  exact List.mem_filter.mpr ⟨List.mem_range.mpr a, by rw [b]; exact beq_self_eq_true _⟩
/-- the family, in order -/
noncomputable def fam (T c0 : Nat) : List Nat := (List.range 343).filter (fun c => @decide (rch T c0 c) (Classical.propDecidable _))
theorem fam_mem {T c0 c : Nat} (h0 : c0 < 343) : c ∈ fam T c0 ↔ rch T c0 c := by
  unfold fam
  rw [List.mem_filter]
  constructor
  · intro h; exact @of_decide_eq_true _ (Classical.propDecidable _) h.2
  · intro h; exact ⟨List.mem_range.mpr (rch_lt h0 h).1, @decide_eq_true _ (Classical.propDecidable _) h⟩
theorem fam_nodup (T c0 : Nat) : (fam T c0).Nodup := List.Pairwise.filter _ List.nodup_range
theorem fam_lt (T c0 : Nat) : (fam T c0).Pairwise (· < ·) := List.Pairwise.filter _ List.pairwise_lt_range
theorem fam_len {T c0 : Nat} (h0 : c0 < 343) : (fam T c0).length ≤ 48 := fam_48 h0 (fam_nodup T c0) (fun c hc => (fam_mem h0).mp hc)
/-- a closed list that holds c0 and nothing that isn't reached has as many as the family -/
theorem fam_cnt {T c0 : Nat} {cs : List Nat} (h0 : c0 < 343) (hn : cs.Nodup) (hr : ∀ c ∈ cs, rch T c0 c) (hc : c0 ∈ cs) (hcl : ∀ c ∈ cs, ∀ t, t < 6 → bit T t = true → tn t c ∈ cs) : (∀ c, c ∈ cs ↔ rch T c0 c) ∧ cs.length = (fam T c0).length := by
  have h1 : ∀ c, c ∈ cs ↔ rch T c0 c := fun c => ⟨hr c, fun h => h (fun c => c ∈ cs) hc (fun c t h ht hb => hcl c h t ht hb)⟩
  refine ⟨h1, ?_⟩
  exact ((List.perm_ext_iff_of_nodup hn (fam_nodup T c0)).mpr (fun c => by rw [h1 c, fam_mem h0])).length_eq
theorem c100_lt : ∀ c, c < 343 → c100 c < 667 := by decide +kernel
theorem c100_inj : ∀ c, c < 343 → ∀ d, d < 343 → c100 c = c100 d → c = d := by
  intro c hc d hd h
  unfold c100 ch ck cl at h
  omega
theorem c_dig (c : Nat) : c = 49 * ch c + 7 * ck c + cl c ∧ ck c < 7 ∧ cl c < 7 := by
  unfold ch ck cl
  have := Nat.div_div_eq_div_mul c 7 7
  omega
theorem c100_mono {c d : Nat} : c100 c < c100 d ↔ c < d := by
  obtain ⟨a1, a2, a3⟩ := c_dig c
  obtain ⟨b1, b2, b3⟩ := c_dig d
  unfold c100
  omega
