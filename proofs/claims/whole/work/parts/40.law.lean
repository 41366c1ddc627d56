/-! THE CLAIM OUT OF ONE WALK OF THE LAW'S BODY. Your part is whole_start (and what it stands on); all else here is the same for every law, but numbers. -/
def R_law : String := "CrystalCutsLaw"
def lw_P (b : Addr) (xs : List Int32) (args : Array Value) (s : State) : Prop := args = #[.ref b] ∧ s.IntsAt b xs ∧ xs.length ≤ 3072 ∧ (Jvm.Cond.and given_1 narrow_1).before args s = true
def lw_Q (_ : Array Value) (s : State) (o : Outcome) (t : State) : Prop := o = .returned (some (.int 1)) ∧ Framed s o t [] 600000 7302250
def lw_Z (below : List Frame) (a : Array Value) (s : State) : State → Prop := fun t => ∃ o, t.status = .running ∧ Ended t below o ∧ lw_Q a s o t
/-- the law's own end, with 1 on the stack, nothing written that was there before, its room as the claim has it -/
theorem lw_ret {p : Program} {l : Launch} {e : Env} {s : State} {m : MethodId} {below : List Frame} {meth : Method} {c : Code} {b : Nat} (hx : p.tables.exec = Jvm.exec) (hb : c.code = code) (hr : meth.sig.returnType = ret) (hlocks : meth.locks = false) {pc : Nat} {H : Heap} {ls : Array Slot} (hdg : decode code pc = .ok (.ireturn, 1)) : W p l e room_1 s m #[Value.ref b] below meth c H [] 600000 7302250 (lw_Z below #[Value.ref b] s) (F0 m pc ls [.int 1]) := by
  intro T hT X
  obtain ⟨fs, hret, hrun, hended, hW, hframe⟩ := X.leave (v := some (.int 1)) (hlocks := hlocks) (fun h => by rw [hr] at h; cases h)
  have hmeth' : T.vm.method? m = some meth := X.method'
  refine ⟨T.setFrames fs, ?_, .returned (some (.int 1)), hrun, hended, rfl, ⟨_, rfl⟩, hW, hframe⟩
  jvm_step X.here [X.here.top, hx, hb, hdg, hmeth', hr, ret, narrow_b1]
  (try refine ⟨rfl, ?_⟩); (try refine ⟨rfl, ?_⟩)
  first | (intro acts; rw [hret _ acts rfl rfl rfl]) | rw [hret _ _ rfl rfl rfl]
  exact Steps.refl _
/-- what holds at the law's entry: the machine, the code, the tables' words (any of lw_tbl by 'hts w (by decide +kernel)'), the script of L ints xs at the cell b, what the Statement gives of the start (any of its parts by flat_of_before) -/
def lw_At (p : Program) (s : State) (m : MethodId) (meth : Method) (c : Code) (b L : Nat) (xs : Nat → Int32) : Prop :=
  p.tables.exec = Jvm.exec ∧ c.code = code ∧ meth.sig.returnType = ret ∧ c.maxLocals = 4 ∧ s.vm.findClass R_law = some m.cls ∧ (∀ w ∈ lw_tbl, w.before #[Value.ref b] s = true) ∧ va_X b L xs s s.heap ∧ b < s.heap.size ∧ meth.locks = false ∧ (Jvm.Cond.and given_1 narrow_1).before #[Value.ref b] s = true

def gCL (Ln : Nat) (xs : Nat → Int32) (p : Program) (s : State) (m : MethodId) (args : Array Value) (meth : Method) (c : Code) (dC : Nat → ClassId) (dI : Nat → Nat → Nat) (ad : Nat → Nat) (cA : Nat → ClassId) : Prop :=
  gCx 70 RL code 4 ret p s m args meth c dC dI ad cA ∧ args = #[.ref (ad 72)] ∧ va_X (ad 72) Ln xs s s.heap ∧ ad 72 < s.heap.size ∧ (∀ a, a < 70 → s.heap.size ≤ ad a)
def EvL (Ln : Nat) (xs : Nat → Int32) (pc : Nat) (lc : List (Option Value)) (st : List Value) (I : Nat → Int32) (A : Nat → Nat → Int32) (L : Nat → Int64) : Prop :=
  ∀ (p : Program) (l : Launch) (e : Env) (s : State) (m : MethodId) (args : Array Value) (below : List Frame) (meth : Method) (c : Code) (dC : Nat → ClassId) (dI : Nat → Nat → Nat) (ad : Nat → Nat) (cA : Nat → ClassId), gCL Ln xs p s m args meth c dC dI ad cA → ∀ (H : Heap) (locs : List Loc) (ls : Array Slot), va_P (dC, dI) vwCl (gW 70 cA ad I A L) H → va_S (gA 70 ad) s.heap H locs → lv_has ls 4 (gPr ad lc) →
    W p l e room_1 s m args below meth c H locs 600000 7302250 (lw_Z below args s) (F0 m pc ls (st.map (cv ad)))
theorem gCL_b {Ln : Nat} {xs : Nat → Int32} {p : Program} {s : State} {m : MethodId} {args : Array Value} {meth : Method} {c : Code} {dC : Nat → ClassId} {dI : Nat → Nat → Nat} {ad : Nat → Nat} {cA : Nat → ClassId} (hC : gCL Ln xs p s m args meth c dC dI ad cA) : ¬ gA 70 ad (ad 72) := by
  rintro ⟨a, h1, h2⟩
  have h3 := hC.2.2.2.2 a h1
  have h4 := hC.2.2.2.1
  omega
section LRules
variable {Ln : Nat} {xs : Nat → Int32} {pc : Nat} {lc : List (Option Value)} {st : List Value} {I : Nat → Int32} {A : Nat → Nat → Int32} {L : Nat → Int64}
theorem l_iconst {n : Int} {v : Int32} (hv : Int32.ofInt n = v) {pc' : Nat} (hd : decode code pc = .ok (.iconst n, 1)) (hp : pc + 1 = pc') (k : EvL Ln xs pc' lc (.int v :: st) I A L) : EvL Ln xs pc lc (st) I A L := by
  subst hp
  intro p l e s m args below meth c dC dI ad cA hC H locs ls hP hS hl
  exact lv_iconst hC.1.1 hC.1.2.1 hd hv (k p l e s m args below meth c dC dI ad cA hC H locs ls hP hS hl)
theorem l_bipush {n : Int} {v : Int32} (hv : (Int8.ofInt n).toInt32 = v) {pc' : Nat} (hd : decode code pc = .ok (.bipush n, 2)) (hp : pc + 2 = pc') (k : EvL Ln xs pc' lc (.int v :: st) I A L) : EvL Ln xs pc lc (st) I A L := by
  subst hp
  intro p l e s m args below meth c dC dI ad cA hC H locs ls hP hS hl
  exact lv_bipush hC.1.1 hC.1.2.1 hd hv (k p l e s m args below meth c dC dI ad cA hC H locs ls hP hS hl)
theorem l_iload_n {k0 : Fin 4} {i : Nat} {x : Int32} (hi : (k0 : Nat) = i) (hv : lc[i]? = some (some (.int x))) {pc' : Nat} (hd : decode code pc = .ok (.iload_n k0, 1)) (hp : pc + 1 = pc') (k : EvL Ln xs pc' lc (.int x :: st) I A L) : EvL Ln xs pc lc (st) I A L := by
  subst hp
  intro p l e s m args below meth c dC dI ad cA hC H locs ls hP hS hl
  exact lv_iload_n hC.1.1 hC.1.2.1 hd hi (gPr_at hl hv) (k p l e s m args below meth c dC dI ad cA hC H locs ls hP hS hl)
theorem l_aload_n {k0 : Fin 4} {i : Nat} {x : Nat} (hi : (k0 : Nat) = i) (hv : lc[i]? = some (some (.ref x))) {pc' : Nat} (hd : decode code pc = .ok (.aload_n k0, 1)) (hp : pc + 1 = pc') (k : EvL Ln xs pc' lc (.ref x :: st) I A L) : EvL Ln xs pc lc (st) I A L := by
  subst hp
  intro p l e s m args below meth c dC dI ad cA hC H locs ls hP hS hl
  exact lv_aload_n hC.1.1 hC.1.2.1 hd hi (gPr_at hl hv) (k p l e s m args below meth c dC dI ad cA hC H locs ls hP hS hl)
theorem l_iadd {x y : Int32} {pc' : Nat} (hd : decode code pc = .ok (.iadd, 1)) (hp : pc + 1 = pc') (k : EvL Ln xs pc' lc (.int (x + y) :: st) I A L) : EvL Ln xs pc lc (.int y :: .int x :: st) I A L := by
  subst hp
  intro p l e s m args below meth c dC dI ad cA hC H locs ls hP hS hl
  exact lv_iadd hC.1.1 hC.1.2.1 hd (k p l e s m args below meth c dC dI ad cA hC H locs ls hP hS hl)
theorem l_isub {x y : Int32} {pc' : Nat} (hd : decode code pc = .ok (.isub, 1)) (hp : pc + 1 = pc') (k : EvL Ln xs pc' lc (.int (x - y) :: st) I A L) : EvL Ln xs pc lc (.int y :: .int x :: st) I A L := by
  subst hp
  intro p l e s m args below meth c dC dI ad cA hC H locs ls hP hS hl
  exact lv_isub hC.1.1 hC.1.2.1 hd (k p l e s m args below meth c dC dI ad cA hC H locs ls hP hS hl)
theorem l_iand {x y : Int32} {pc' : Nat} (hd : decode code pc = .ok (.iand, 1)) (hp : pc + 1 = pc') (k : EvL Ln xs pc' lc (.int (x &&& y) :: st) I A L) : EvL Ln xs pc lc (.int y :: .int x :: st) I A L := by
  subst hp
  intro p l e s m args below meth c dC dI ad cA hC H locs ls hP hS hl
  exact lv_iand hC.1.1 hC.1.2.1 hd (k p l e s m args below meth c dC dI ad cA hC H locs ls hP hS hl)
theorem l_lcmp {x y : Int64} {pc' : Nat} (hd : decode code pc = .ok (.lcmp, 1)) (hp : pc + 1 = pc') (k : EvL Ln xs pc' lc (.int (lg_cmp x y) :: st) I A L) : EvL Ln xs pc lc (.long y :: .long x :: st) I A L := by
  subst hp
  intro p l e s m args below meth c dC dI ad cA hC H locs ls hP hS hl
  exact W.lcmp hC.1.1 hC.1.2.1 hd (k p l e s m args below meth c dC dI ad cA hC H locs ls hP hS hl)
theorem l_sld {i : Int32} (hin : vp_in i Ln) {pc' : Nat} (hd : decode code pc = .ok (.iaload, 1)) (hp : pc + 1 = pc') (k : EvL Ln xs pc' lc (.int (xs i.toNatClampNeg) :: st) I A L) : EvL Ln xs pc lc (.int i :: .ref 72 :: st) I A L := by
  subst hp
  intro p l e s m args below meth c dC dI ad cA hC H locs ls hP hS hl
  exact va_sld hC.1.1 hC.1.2.1 hC.2.2.1 hC.2.2.2.1 (gCL_b hC) hS hin hd (k p l e s m args below meth c dC dI ad cA hC H locs ls hP hS hl)
theorem l_slen  {pc' : Nat} (hd : decode code pc = .ok (.arraylength, 1)) (hp : pc + 1 = pc') (k : EvL Ln xs pc' lc (.int (Int32.ofNat Ln) :: st) I A L) : EvL Ln xs pc lc (.ref 72 :: st) I A L := by
  subst hp
  intro p l e s m args below meth c dC dI ad cA hC H locs ls hP hS hl
  exact va_slen hC.1.1 hC.1.2.1 hC.2.2.1 hC.2.2.2.1 (gCL_b hC) hS hd (k p l e s m args below meth c dC dI ad cA hC H locs ls hP hS hl)
theorem l_goto {off : Int} {tgt : Nat} (hd : decode code pc = .ok (.goto off, 3)) (ht : (pc : Int) + off = (tgt : Int)) (k : EvL Ln xs tgt lc (st) I A L) : EvL Ln xs pc lc (st) I A L := by
  intro p l e s m args below meth c dC dI ad cA hC H locs ls hP hS hl
  exact lv_goto hC.1.1 hC.1.2.1 hd ht (k p l e s m args below meth c dC dI ad cA hC H locs ls hP hS hl)
theorem l_iinc {i : Nat} {n : Int} {x v : Int32} {pc' : Nat} {lc' : List (Option Value)} (hd : decode code pc = .ok (.iinc i n, 3)) (hp : pc + 3 = pc') (hv : lc[i]? = some (some (.int x))) (hw : x + Int32.ofInt n = v) (hn : i < 4) (hok : gok lc i = true) (hlc : lc.set i (some (.int v)) = lc') (k : EvL Ln xs pc' lc' (st) I A L) : EvL Ln xs pc lc (st) I A L := by
  subst hp
  intro p l e s m args below meth c dC dI ad cA hC H locs ls hP hS hl
  have hm : (i, Value.int x) ∈ gPr ad lc := gPr_mem.mpr ⟨.int x, hv, rfl⟩
  obtain ⟨kk, hkk⟩ := List.mem_iff_getElem?.mp hm
  exact lv_iinc hC.1.1 hC.1.2.1 hd hl hkk hw hn rfl (fun ls hl => by
    have hl := gPr_st1 (ad := ad) (v := .int v) hok hl
    exact (k p l e s m args below meth c dC dI ad cA hC H locs ls hP hS (by rw [hlc] at hl; exact hl)))
theorem l_icmp_gt {x y : Int32} {off : Int} {tgt pc' : Nat} (hd : decode code pc = .ok (.if_icmp .gt off, 3)) (ht : (pc : Int) + off = (tgt : Int)) (hp : pc + 3 = pc') (kt : y < x → EvL Ln xs tgt lc (st) I A L) (kf : ¬ y < x → EvL Ln xs pc' lc (st) I A L) : EvL Ln xs pc lc (.int y :: .int x :: st) I A L := by
  subst hp
  intro p l e s m args below meth c dC dI ad cA hC H locs ls hP hS hl
  exact lv_icmp_gt hC.1.1 hC.1.2.1 hd ht (fun q => kt q p l e s m args below meth c dC dI ad cA hC H locs ls hP hS hl) (fun q => kf q p l e s m args below meth c dC dI ad cA hC H locs ls hP hS hl)
/-- both answers are the same: on -/
theorem l_icmp_eq {x : Int32} {off : Int} {tgt : Nat} (hd : decode code pc = .ok (.if_icmp .eq off, 3)) (ht : (pc : Int) + off = (tgt : Int)) (kt : EvL Ln xs tgt lc (st) I A L) : EvL Ln xs pc lc (.int x :: .int x :: st) I A L := by
  intro p l e s m args below meth c dC dI ad cA hC H locs ls hP hS hl
  exact lv_icmp_eq hC.1.1 hC.1.2.1 hd ht (fun q => kt p l e s m args below meth c dC dI ad cA hC H locs ls hP hS hl) (fun q => absurd rfl q)
theorem l_if_eq {off : Int} {tgt : Nat} (hd : decode code pc = .ok (.ifCond .eq off, 3)) (ht : (pc : Int) + off = (tgt : Int)) (kt : EvL Ln xs tgt lc (st) I A L) : EvL Ln xs pc lc (.int 0 :: st) I A L := by
  intro p l e s m args below meth c dC dI ad cA hC H locs ls hP hS hl
  exact lv_if_eq hC.1.1 hC.1.2.1 hd ht (fun q => kt p l e s m args below meth c dC dI ad cA hC H locs ls hP hS hl) (fun q => absurd rfl q)
theorem l_swIn {dflt lo hi : Int} {offs : Array Int} {len : Nat} {x : Int32} {off : Int} {tgt : Nat} (hd : decode code pc = .ok (.tableswitch dflt lo hi offs, len)) (h1 : ¬ x.toInt < lo) (h2 : ¬ hi < x.toInt) (ho : offs[(x.toInt - lo).toNat]? = some off) (ht : (pc : Int) + off = (tgt : Int)) (k : EvL Ln xs tgt lc (st) I A L) : EvL Ln xs pc lc (.int x :: st) I A L := by
  intro p l e s m args below meth c dC dI ad cA hC H locs ls hP hS hl
  exact lv_tableIn hC.1.1 hC.1.2.1 hd h1 h2 ho ht (k p l e s m args below meth c dC dI ad cA hC H locs ls hP hS hl)
theorem l_swOut {dflt lo hi : Int} {offs : Array Int} {len : Nat} {x : Int32} {tgt : Nat} (hd : decode code pc = .ok (.tableswitch dflt lo hi offs, len)) (h : x.toInt < lo ∨ hi < x.toInt) (ht : (pc : Int) + dflt = (tgt : Int)) (k : EvL Ln xs tgt lc (st) I A L) : EvL Ln xs pc lc (.int x :: st) I A L := by
  intro p l e s m args below meth c dC dI ad cA hC H locs ls hP hS hl
  exact lv_tableOut hC.1.1 hC.1.2.1 hd h ht (k p l e s m args below meth c dC dI ad cA hC H locs ls hP hS hl)
theorem l_ret (hd : decode code pc = .ok (.ireturn, 1)) : EvL Ln xs pc lc (.int 1 :: []) I A L := by
  intro p l e s m args below meth c dC dI ad cA hC H locs ls hP hS hl
  refine va_forget (fun q hq => ?_) ?_
  · obtain ⟨a, h1, h2⟩ := hS.2.2 q hq
    rw [h2]
    exact hC.2.2.2.2 a h1
  · have ha := hC.2.1
    subst ha
    exact lw_ret hC.1.1 hC.1.2.1 hC.1.2.2.1 hC.1.2.2.2.2.2.2.1 hd
theorem l_call {y : MethodName} {cy : ByteArray} {ny dy n idx : Nat} {ry : Option FieldType} {As S : List Value} {v : Option Value} {I' : Nat → Int32} {A' : Nat → Nat → Int32} {L' : Nat → Int64} {pc' : Nat} {a ci : Nat} (hd : decode code pc = .ok (.invokevirtual idx, 3)) (hp : pc + 3 = pc') (hlink : Cond.methodLink RL idx y ∈ gT) (hm : g_mv y cy ny ry n) (hn : As.length = n) (hdd : dy ≤ 8) (hst : (st.map fun v => v.category).sum ≤ 8) (hsh : g_sh a = (ci, 0)) (ha : a < 70) (hci : ci < 8) (hcl : (g_cl ci).1 = y.cls)
    (hM : GM 70 y cy ny ry dy (.ref a :: As) I A L (v, (I', A', L'))) (hSt : S = As.reverse ++ .ref a :: st) (k : EvL Ln xs pc' lc (v.toList ++ st) I' A' L') : EvL Ln xs pc lc (S) I A L := by
  subst hSt
  intro p l e s m args below meth c dC dI ad cA hC H locs ls hP hS hl
  obtain ⟨⟨w1, w2, w3, w4⟩, w5, w6⟩ := hm
  have hts := hC.1.2.2.2.2.2.1
  have hr : va_Run p l e room_1 s m args below meth c H locs 600000 7302250 0 0 (F0 m pc ls ((As.reverse ++ Value.ref a :: st).map (cv ad))) (st.map (cv ad)) (gQ 70 dC dI cA ad (v, (I', A', L')) (Value.ref (ad a) :: As.map (cv ad)).toArray) (gA 70 ad) := by
    refine va_runV (C := y.cls) (b := ad a) (As := As.map (cv ad)) (rest := st.map (cv ad)) ⟨hC.1.1, hC.1.2.1, hC.1.2.2.2.1, hC.1.2.2.2.2.1, hts⟩ (hM l dC dI ad cA) ⟨callB_of n hts (g_good w2) rfl rfl rfl (hts _ w1) (hts _ hlink) w3 ⟨by show dy + 1 ≤ 9; omega, by show 8 + (ny + 11) + 39 * dy ≤ 352; omega⟩, hts _ w5, hts _ w6⟩ ⟨gPc_blind, ?_, fun U hU hW => ⟨rfl, hC.1.2.2.2.2.2.2.2.moved hS hU hW, by rw [hU]; exact hP⟩⟩ rfl (by rw [List.length_map]; exact hn) hl.1 (by simp [List.map_append, List.map_reverse, cv]) (lv_room (e_st8 hst)) hd ⟨Nat.le_refl _, Nat.le_refl _⟩
    rw [← hcl]
    exact va_recv hC.1.2.2.2.2.2.2.2.1 hP (g_cl_at hci) (q0 := a) (by rw [gW_get _ _ _ _ _ ha, g_obj hsh hci])
  subst hp
  intro T hT X
  obtain ⟨w, st₀, t, T', LL, h0, X', hL, e1, e2, ⟨⟨hv, hP'⟩, hz, hk⟩, stp⟩ := hr T hT X
  have hw : w = v.map (cv ad) := Outcome.returned.inj hv
  subst hw
  rw [h0] at hz hk
  have hS' : va_S (gA 70 ad) s.heap T'.heap (locs ++ LL) := ⟨Nat.le_trans hS.1 (by rw [e1]; exact hz), fun q h1 h2 => by rw [e1, hk q (Nat.lt_of_lt_of_le h1 hS.1) h2]; exact hS.2.1 q h1 h2, fun q hq => by
      rcases List.mem_append.mp hq with h | h
      · exact hS.2.2 q h
      · exact hL q h⟩
  obtain ⟨t2, a1, b1⟩ := k p l e s m args below meth c dC dI ad cA hC T'.heap (locs ++ LL) ls (by rw [e1]; exact hP') hS' hl T' rfl X'
  refine ⟨t2, stp t2 ?_, b1⟩
  have e9 : (v.toList ++ st).map (cv ad) = (v.map (cv ad)).toList ++ st.map (cv ad) := by
    rw [List.map_append]
    cases v <;> rfl
  rw [e9] at a1
  exact a1
end LRules
def gStep_plane (Inv : (Nat → Int32) → (Nat → Nat → Int32) → (Nat → Int64) → Prop) : Prop := ∀ (a0 a1 a2 a3 : Int32) (I : Nat → Int32) (A : Nat → Nat → Int32) (L : Nat → Int64), Inv I A L → ∃ (x : Int32) (I1 : Nat → Int32) (A1 : Nat → Nat → Int32) (L1 : Nat → Int64) (I2 : Nat → Int32) (A2 : Nat → Nat → Int32) (L2 : Nat → Int64), f_X6_plane a0 a1 a2 a3 I A L = some (x, I1, A1, L1) ∧ f_X7_plane a0 a1 a2 a3 I1 A1 L1 = some (x, I2, A2, L2) ∧ Inv I2 A2 L2
def gStep_family (Inv : (Nat → Int32) → (Nat → Nat → Int32) → (Nat → Int64) → Prop) : Prop := ∀ (a0 a1 a2 a3 a4 : Int32) (I : Nat → Int32) (A : Nat → Nat → Int32) (L : Nat → Int64), Inv I A L → ∃ (x : Int32) (I1 : Nat → Int32) (A1 : Nat → Nat → Int32) (L1 : Nat → Int64) (I2 : Nat → Int32) (A2 : Nat → Nat → Int32) (L2 : Nat → Int64), f_X6_family a0 a1 a2 a3 a4 I A L = some (x, I1, A1, L1) ∧ f_X7_family a0 a1 a2 a3 a4 I1 A1 L1 = some (x, I2, A2, L2) ∧ Inv I2 A2 L2
def gStep_off (Inv : (Nat → Int32) → (Nat → Nat → Int32) → (Nat → Int64) → Prop) : Prop := ∀ (a0 a1 : Int32) (I : Nat → Int32) (A : Nat → Nat → Int32) (L : Nat → Int64), Inv I A L → ∃ (x : Int32) (I1 : Nat → Int32) (A1 : Nat → Nat → Int32) (L1 : Nat → Int64) (I2 : Nat → Int32) (A2 : Nat → Nat → Int32) (L2 : Nat → Int64), f_X6_off a0 a1 I A L = some (x, I1, A1, L1) ∧ f_X7_off a0 a1 I1 A1 L1 = some (x, I2, A2, L2) ∧ Inv I2 A2 L2
def gStep_drop (Inv : (Nat → Int32) → (Nat → Nat → Int32) → (Nat → Int64) → Prop) : Prop := ∀ (a0 : Int32) (I : Nat → Int32) (A : Nat → Nat → Int32) (L : Nat → Int64), Inv I A L → ∃ (x : Int32) (I1 : Nat → Int32) (A1 : Nat → Nat → Int32) (L1 : Nat → Int64) (I2 : Nat → Int32) (A2 : Nat → Nat → Int32) (L2 : Nat → Int64), f_X6_drop a0 I A L = some (x, I1, A1, L1) ∧ f_X7_drop a0 I1 A1 L1 = some (x, I2, A2, L2) ∧ Inv I2 A2 L2
def gStep_anew (Inv : (Nat → Int32) → (Nat → Nat → Int32) → (Nat → Int64) → Prop) : Prop := ∀ (I : Nat → Int32) (A : Nat → Nat → Int32) (L : Nat → Int64), Inv I A L → ∃ (x : Int32) (I1 : Nat → Int32) (A1 : Nat → Nat → Int32) (L1 : Nat → Int64) (I2 : Nat → Int32) (A2 : Nat → Nat → Int32) (L2 : Nat → Int64), f_X6_anew  I A L = some (x, I1, A1, L1) ∧ f_X7_anew  I1 A1 L1 = some (x, I2, A2, L2) ∧ Inv I2 A2 L2
def gStep_draw (Inv : (Nat → Int32) → (Nat → Nat → Int32) → (Nat → Int64) → Prop) : Prop := ∀ (a0 a1 : Int32) (I : Nat → Int32) (A : Nat → Nat → Int32) (L : Nat → Int64), Inv I A L → ∃ (x : Int32) (I1 : Nat → Int32) (A1 : Nat → Nat → Int32) (L1 : Nat → Int64) (I2 : Nat → Int32) (A2 : Nat → Nat → Int32) (L2 : Nat → Int64), f_X6_draw a0 a1 I A L = some (x, I1, A1, L1) ∧ f_X7_draw a0 a1 I1 A1 L1 = some (x, I2, A2, L2) ∧ Inv I2 A2 L2
def gStep_of (Inv : (Nat → Int32) → (Nat → Nat → Int32) → (Nat → Int64) → Prop) : Prop := ∀ (a0 a1 : Int32) (I : Nat → Int32) (A : Nat → Nat → Int32) (L : Nat → Int64), Inv I A L → ∃ (x : Int32) (I1 : Nat → Int32) (A1 : Nat → Nat → Int32) (L1 : Nat → Int64) (I2 : Nat → Int32) (A2 : Nat → Nat → Int32) (L2 : Nat → Int64), f_X6_of a0 a1 I A L = some (x, I1, A1, L1) ∧ f_X7_of a0 a1 I1 A1 L1 = some (x, I2, A2, L2) ∧ Inv I2 A2 L2
def gStep_member (Inv : (Nat → Int32) → (Nat → Nat → Int32) → (Nat → Int64) → Prop) : Prop := ∀ (a0 a1 a2 a3 a4 : Int32) (I : Nat → Int32) (A : Nat → Nat → Int32) (L : Nat → Int64), Inv I A L → ∃ (x : Int32) (I1 : Nat → Int32) (A1 : Nat → Nat → Int32) (L1 : Nat → Int64) (I2 : Nat → Int32) (A2 : Nat → Nat → Int32) (L2 : Nat → Int64), f_X6_member a0 a1 a2 a3 a4 I A L = some (x, I1, A1, L1) ∧ f_X7_member a0 a1 a2 a3 a4 I1 A1 L1 = some (x, I2, A2, L2) ∧ Inv I2 A2 L2
def gStep_all (Inv : (Nat → Int32) → (Nat → Nat → Int32) → (Nat → Int64) → Prop) : Prop := ∀ (a0 : Int32) (I : Nat → Int32) (A : Nat → Nat → Int32) (L : Nat → Int64), Inv I A L → ∃ (x : Int32) (I1 : Nat → Int32) (A1 : Nat → Nat → Int32) (L1 : Nat → Int64) (I2 : Nat → Int32) (A2 : Nat → Nat → Int32) (L2 : Nat → Int64), f_X6_all a0 I A L = some (x, I1, A1, L1) ∧ f_X7_all a0 I1 A1 L1 = some (x, I2, A2, L2) ∧ Inv I2 A2 L2
def gStep_corner (Inv : (Nat → Int32) → (Nat → Nat → Int32) → (Nat → Int64) → Prop) : Prop := ∀ (a0 a1 : Int32) (I : Nat → Int32) (A : Nat → Nat → Int32) (L : Nat → Int64), Inv I A L → ∃ (x : Int32) (I1 : Nat → Int32) (A1 : Nat → Nat → Int32) (L1 : Nat → Int64) (I2 : Nat → Int32) (A2 : Nat → Nat → Int32) (L2 : Nat → Int64), f_X6_corner a0 a1 I A L = some (x, I1, A1, L1) ∧ f_X7_corner a0 a1 I1 A1 L1 = some (x, I2, A2, L2) ∧ Inv I2 A2 L2
def gStep_meets (Inv : (Nat → Int32) → (Nat → Nat → Int32) → (Nat → Int64) → Prop) : Prop := ∀ (a0 a1 : Int32) (I : Nat → Int32) (A : Nat → Nat → Int32) (L : Nat → Int64), Inv I A L → ∃ (x : Int32) (I1 : Nat → Int32) (A1 : Nat → Nat → Int32) (L1 : Nat → Int64) (I2 : Nat → Int32) (A2 : Nat → Nat → Int32) (L2 : Nat → Int64), f_X6_meets a0 a1 I A L = some (x, I1, A1, L1) ∧ f_X7_meets a0 a1 I1 A1 L1 = some (x, I2, A2, L2) ∧ Inv I2 A2 L2
def gStep_part (Inv : (Nat → Int32) → (Nat → Nat → Int32) → (Nat → Int64) → Prop) : Prop := ∀ (a0 : Int32) (I : Nat → Int32) (A : Nat → Nat → Int32) (L : Nat → Int64), Inv I A L → ∃ (x : Int64) (I1 : Nat → Int32) (A1 : Nat → Nat → Int32) (L1 : Nat → Int64) (I2 : Nat → Int32) (A2 : Nat → Nat → Int32) (L2 : Nat → Int64), f_X6_part a0 I A L = some (x, I1, A1, L1) ∧ f_X7_part a0 I1 A1 L1 = some (x, I2, A2, L2) ∧ Inv I2 A2 L2
def gStep_edge (Inv : (Nat → Int32) → (Nat → Nat → Int32) → (Nat → Int64) → Prop) : Prop := ∀ (a0 a1 a2 : Int32) (I : Nat → Int32) (A : Nat → Nat → Int32) (L : Nat → Int64), Inv I A L → ∃ (x : Int32) (I1 : Nat → Int32) (A1 : Nat → Nat → Int32) (L1 : Nat → Int64) (I2 : Nat → Int32) (A2 : Nat → Nat → Int32) (L2 : Nat → Int64), f_X6_edge a0 a1 a2 I A L = some (x, I1, A1, L1) ∧ f_X7_edge a0 a1 a2 I1 A1 L1 = some (x, I2, A2, L2) ∧ Inv I2 A2 L2
def gStep_reach (Inv : (Nat → Int32) → (Nat → Nat → Int32) → (Nat → Int64) → Prop) : Prop := ∀ (a0 a1 a2 : Int32) (I : Nat → Int32) (A : Nat → Nat → Int32) (L : Nat → Int64), Inv I A L → ∃ (x : Int32) (I1 : Nat → Int32) (A1 : Nat → Nat → Int32) (L1 : Nat → Int64) (I2 : Nat → Int32) (A2 : Nat → Nat → Int32) (L2 : Nat → Int64), f_X6_reach a0 a1 a2 I A L = some (x, I1, A1, L1) ∧ f_X7_reach a0 a1 a2 I1 A1 L1 = some (x, I2, A2, L2) ∧ Inv I2 A2 L2
def gStep_stays (Inv : (Nat → Int32) → (Nat → Nat → Int32) → (Nat → Int64) → Prop) : Prop := ∀ (a0 : Int32) (I : Nat → Int32) (A : Nat → Nat → Int32) (L : Nat → Int64), Inv I A L → ∃ (x : Int32) (I1 : Nat → Int32) (A1 : Nat → Nat → Int32) (L1 : Nat → Int64) (I2 : Nat → Int32) (A2 : Nat → Nat → Int32) (L2 : Nat → Int64), f_X6_stays a0 I A L = some (x, I1, A1, L1) ∧ f_X7_stays a0 I1 A1 L1 = some (x, I2, A2, L2) ∧ Inv I2 A2 L2
def gStep_symmetry (Inv : (Nat → Int32) → (Nat → Nat → Int32) → (Nat → Int64) → Prop) : Prop := ∀ (I : Nat → Int32) (A : Nat → Nat → Int32) (L : Nat → Int64), Inv I A L → ∃ (x : Int32) (I1 : Nat → Int32) (A1 : Nat → Nat → Int32) (L1 : Nat → Int64) (I2 : Nat → Int32) (A2 : Nat → Nat → Int32) (L2 : Nat → Int64), f_X6_symmetry  I A L = some (x, I1, A1, L1) ∧ f_X7_symmetry  I1 A1 L1 = some (x, I2, A2, L2) ∧ Inv I2 A2 L2
def gStep_hides (Inv : (Nat → Int32) → (Nat → Nat → Int32) → (Nat → Int64) → Prop) : Prop := ∀ (a0 a1 a2 a3 : Int32) (I : Nat → Int32) (A : Nat → Nat → Int32) (L : Nat → Int64), Inv I A L → ∃ (x : Int32) (I1 : Nat → Int32) (A1 : Nat → Nat → Int32) (L1 : Nat → Int64) (I2 : Nat → Int32) (A2 : Nat → Nat → Int32) (L2 : Nat → Int64), f_X6_hides a0 a1 a2 a3 I A L = some (x, I1, A1, L1) ∧ f_X7_hides a0 a1 a2 a3 I1 A1 L1 = some (x, I2, A2, L2) ∧ Inv I2 A2 L2
def gStep_spare (Inv : (Nat → Int32) → (Nat → Nat → Int32) → (Nat → Int64) → Prop) : Prop := ∀ (a0 : Int32) (I : Nat → Int32) (A : Nat → Nat → Int32) (L : Nat → Int64), Inv I A L → ∃ (x : Int32) (I1 : Nat → Int32) (A1 : Nat → Nat → Int32) (L1 : Nat → Int64) (I2 : Nat → Int32) (A2 : Nat → Nat → Int32) (L2 : Nat → Int64), f_X6_spare a0 I A L = some (x, I1, A1, L1) ∧ f_X7_spare a0 I1 A1 L1 = some (x, I2, A2, L2) ∧ Inv I2 A2 L2
def gStep_type (Inv : (Nat → Int32) → (Nat → Nat → Int32) → (Nat → Int64) → Prop) : Prop := ∀ (a0 : Int32) (I : Nat → Int32) (A : Nat → Nat → Int32) (L : Nat → Int64), Inv I A L → ∃ (x : Int32) (I1 : Nat → Int32) (A1 : Nat → Nat → Int32) (L1 : Nat → Int64) (I2 : Nat → Int32) (A2 : Nat → Nat → Int32) (L2 : Nat → Int64), f_X6_type a0 I A L = some (x, I1, A1, L1) ∧ f_X7_type a0 I1 A1 L1 = some (x, I2, A2, L2) ∧ Inv I2 A2 L2
def gStep_clear (Inv : (Nat → Int32) → (Nat → Nat → Int32) → (Nat → Int64) → Prop) : Prop := ∀ (I : Nat → Int32) (A : Nat → Nat → Int32) (L : Nat → Int64), Inv I A L → ∃ (x : Int32) (I1 : Nat → Int32) (A1 : Nat → Nat → Int32) (L1 : Nat → Int64) (I2 : Nat → Int32) (A2 : Nat → Nat → Int32) (L2 : Nat → Int64), f_X6_clear  I A L = some (x, I1, A1, L1) ∧ f_X7_clear  I1 A1 L1 = some (x, I2, A2, L2) ∧ Inv I2 A2 L2
def gStep_reads (Inv : (Nat → Int32) → (Nat → Nat → Int32) → (Nat → Int64) → Prop) : Prop := ∀ (I : Nat → Int32) (A : Nat → Nat → Int32) (L : Nat → Int64), Inv I A L → ∃ (x : Int32) (I1 : Nat → Int32) (A1 : Nat → Nat → Int32) (L1 : Nat → Int64) (I2 : Nat → Int32) (A2 : Nat → Nat → Int32) (L2 : Nat → Int64), f_X6_reads  I A L = some (x, I1, A1, L1) ∧ f_X7_reads  I1 A1 L1 = some (x, I2, A2, L2) ∧ Inv I2 A2 L2
def gStep_back (Inv : (Nat → Int32) → (Nat → Nat → Int32) → (Nat → Int64) → Prop) : Prop := ∀ (I : Nat → Int32) (A : Nat → Nat → Int32) (L : Nat → Int64), Inv I A L → ∃ (x : Int32) (I1 : Nat → Int32) (A1 : Nat → Nat → Int32) (L1 : Nat → Int64) (I2 : Nat → Int32) (A2 : Nat → Nat → Int32) (L2 : Nat → Int64), f_X6_back  I A L = some (x, I1, A1, L1) ∧ f_X7_back  I1 A1 L1 = some (x, I2, A2, L2) ∧ Inv I2 A2 L2
def gStep_told (Inv : (Nat → Int32) → (Nat → Nat → Int32) → (Nat → Int64) → Prop) : Prop := ∀ (a0 : Int32) (I : Nat → Int32) (A : Nat → Nat → Int32) (L : Nat → Int64), Inv I A L → ∃ (x : Int32) (I1 : Nat → Int32) (A1 : Nat → Nat → Int32) (L1 : Nat → Int64) (I2 : Nat → Int32) (A2 : Nat → Nat → Int32) (L2 : Nat → Int64), f_X6_told a0 I A L = some (x, I1, A1, L1) ∧ f_X7_told a0 I1 A1 L1 = some (x, I2, A2, L2) ∧ Inv I2 A2 L2
def gStep_digest (Inv : (Nat → Int32) → (Nat → Nat → Int32) → (Nat → Int64) → Prop) : Prop := ∀ (I : Nat → Int32) (A : Nat → Nat → Int32) (L : Nat → Int64), Inv I A L → ∃ (x : Int64) (I1 : Nat → Int32) (A1 : Nat → Nat → Int32) (L1 : Nat → Int64) (I2 : Nat → Int32) (A2 : Nat → Nat → Int32) (L2 : Nat → Int64), f_X6_digest  I A L = some (x, I1, A1, L1) ∧ f_X7_digest  I1 A1 L1 = some (x, I2, A2, L2) ∧ Inv I2 A2 L2
def gSteps (Inv : (Nat → Int32) → (Nat → Nat → Int32) → (Nat → Int64) → Prop) : Prop := gStep_plane Inv ∧ gStep_family Inv ∧ gStep_off Inv ∧ gStep_drop Inv ∧ gStep_anew Inv ∧ gStep_draw Inv ∧ gStep_of Inv ∧ gStep_member Inv ∧ gStep_all Inv ∧ gStep_corner Inv ∧ gStep_meets Inv ∧ gStep_part Inv ∧ gStep_edge Inv ∧ gStep_reach Inv ∧ gStep_stays Inv ∧ gStep_symmetry Inv ∧ gStep_hides Inv ∧ gStep_spare Inv ∧ gStep_type Inv ∧ gStep_clear Inv ∧ gStep_reads Inv ∧ gStep_back Inv ∧ gStep_told Inv ∧ gStep_digest Inv
theorem lw_ix {k Ln : Nat} {x : Int32} (hL : Ln ≤ 3072) (hk : 6 * k ≤ Ln) (hx : x = Int32.ofNat (6 * k)) (hc : ¬ Int32.ofNat Ln - 6 < x) : 6 * k + 6 ≤ Ln := by
  rcases Nat.lt_or_ge Ln (6 * k + 6) with h | h
  · exfalso
    apply hc
    rw [hx, Int32.lt_iff_toInt_lt]
    have e1 : (Int32.ofNat (6 * k)).toInt = ((6 * k : Nat) : Int) := Int32.toInt_ofNat_of_lt (by omega)
    have e2 : (Int32.ofNat Ln - 6).toInt = (Ln : Int) - 6 := by
      rw [Int32.toInt_sub, Int32.toInt_ofNat_of_lt (by omega)]
      show ((Ln : Int) - 6).bmod (2 ^ 32) = _
      rw [Int.bmod_eq_of_le (by omega) (by omega)]
    rw [e1, e2]
    omega
  · exact h
theorem lw_in {k Ln j : Nat} {x : Int32} (hL : Ln ≤ 3072) (hx : x = Int32.ofNat (6 * k)) (hk : 6 * k + 6 ≤ Ln) (hj : j < 6) : vp_in (x + Int32.ofNat j) Ln := by
  have e : x + Int32.ofNat j = Int32.ofNat (6 * k + j) := by rw [hx, Int32.ofNat_add]
  rw [e]
  exact vp_in_nI (by omega) (by omega)
theorem lw_in0 {k Ln : Nat} {x : Int32} (hL : Ln ≤ 3072) (hx : x = Int32.ofNat (6 * k)) (hk : 6 * k + 6 ≤ Ln) : vp_in x Ln := by
  rw [hx]
  exact vp_in_nI (by omega) (by omega)
theorem g_swo23 {x : Int32} (q0 : ¬ x = 0) (q1 : ¬ x = 1) (q2 : ¬ x = 2) (q3 : ¬ x = 3) (q4 : ¬ x = 4) (q5 : ¬ x = 5) (q6 : ¬ x = 6) (q7 : ¬ x = 7) (q8 : ¬ x = 8) (q9 : ¬ x = 9) (q10 : ¬ x = 10) (q11 : ¬ x = 11) (q12 : ¬ x = 12) (q13 : ¬ x = 13) (q14 : ¬ x = 14) (q15 : ¬ x = 15) (q16 : ¬ x = 16) (q17 : ¬ x = 17) (q18 : ¬ x = 18) (q19 : ¬ x = 19) (q20 : ¬ x = 20) (q21 : ¬ x = 21) (q22 : ¬ x = 22) (q23 : ¬ x = 23) : x.toInt < 0 ∨ 23 < x.toInt := by
  have h0 := g_ne32 q0
  rw [show ((0 : Int32).toInt) = 0 from by decide] at h0
  have h1 := g_ne32 q1
  rw [show ((1 : Int32).toInt) = 1 from by decide] at h1
  have h2 := g_ne32 q2
  rw [show ((2 : Int32).toInt) = 2 from by decide] at h2
  have h3 := g_ne32 q3
  rw [show ((3 : Int32).toInt) = 3 from by decide] at h3
  have h4 := g_ne32 q4
  rw [show ((4 : Int32).toInt) = 4 from by decide] at h4
  have h5 := g_ne32 q5
  rw [show ((5 : Int32).toInt) = 5 from by decide] at h5
  have h6 := g_ne32 q6
  rw [show ((6 : Int32).toInt) = 6 from by decide] at h6
  have h7 := g_ne32 q7
  rw [show ((7 : Int32).toInt) = 7 from by decide] at h7
  have h8 := g_ne32 q8
  rw [show ((8 : Int32).toInt) = 8 from by decide] at h8
  have h9 := g_ne32 q9
  rw [show ((9 : Int32).toInt) = 9 from by decide] at h9
  have h10 := g_ne32 q10
  rw [show ((10 : Int32).toInt) = 10 from by decide] at h10
  have h11 := g_ne32 q11
  rw [show ((11 : Int32).toInt) = 11 from by decide] at h11
  have h12 := g_ne32 q12
  rw [show ((12 : Int32).toInt) = 12 from by decide] at h12
  have h13 := g_ne32 q13
  rw [show ((13 : Int32).toInt) = 13 from by decide] at h13
  have h14 := g_ne32 q14
  rw [show ((14 : Int32).toInt) = 14 from by decide] at h14
  have h15 := g_ne32 q15
  rw [show ((15 : Int32).toInt) = 15 from by decide] at h15
  have h16 := g_ne32 q16
  rw [show ((16 : Int32).toInt) = 16 from by decide] at h16
  have h17 := g_ne32 q17
  rw [show ((17 : Int32).toInt) = 17 from by decide] at h17
  have h18 := g_ne32 q18
  rw [show ((18 : Int32).toInt) = 18 from by decide] at h18
  have h19 := g_ne32 q19
  rw [show ((19 : Int32).toInt) = 19 from by decide] at h19
  have h20 := g_ne32 q20
  rw [show ((20 : Int32).toInt) = 20 from by decide] at h20
  have h21 := g_ne32 q21
  rw [show ((21 : Int32).toInt) = 21 from by decide] at h21
  have h22 := g_ne32 q22
  rw [show ((22 : Int32).toInt) = 22 from by decide] at h22
  have h23 := g_ne32 q23
  rw [show ((23 : Int32).toInt) = 23 from by decide] at h23
  omega
set_option maxHeartbeats 4000000 in
set_option maxRecDepth 100000 in
theorem lw_loop {Inv : (Nat → Int32) → (Nat → Nat → Int32) → (Nat → Int64) → Prop} (hSt : gSteps Inv) {Ln : Nat} {xs : Nat → Int32} (hL : Ln ≤ 3072) : ∀ (n k : Nat) (x : Int32) (I : Nat → Int32) (A : Nat → Nat → Int32) (L : Nat → Int64), 6 * k ≤ Ln → Ln < 6 * (k + n) → x = Int32.ofNat (6 * k) → Inv I A L → EvL Ln xs 18 [some (.ref 72), some (.ref 0), some (.ref 59), some (.int x)] [] I A L := by
  obtain ⟨h_plane, h_family, h_off, h_drop, h_anew, h_draw, h_of, h_member, h_all, h_corner, h_meets, h_part, h_edge, h_reach, h_stays, h_symmetry, h_hides, h_spare, h_type, h_clear, h_reads, h_back, h_told, h_digest⟩ := hSt
  intro n
  induction n with
  | zero =>
    intro k x I A L h1 h2
    exact absurd h2 (by omega)
  | succ n ih =>
    intro k x I A L hk hn hx hI
    have hend : ∀ (I : Nat → Int32) (A : Nat → Nat → Int32) (L : Nat → Int64), Inv I A L → 6 * k + 6 ≤ Ln → EvL Ln xs 868 [some (.ref 72), some (.ref 0), some (.ref 59), some (.int x)] [] I A L := by
      intro I A L hI h6
      refine l_iinc (pc' := 871) (v := (x + 6)) (lc' := [some (.ref 72), some (.ref 0), some (.ref 59), some (.int (x + 6))]) dL_law_868 rfl rfl rfl (Nat.le_of_ble_eq_true rfl) rfl rfl ?_
      refine l_goto (tgt := 18) dL_law_871 (by decide) ?_
      exact ih (k + 1) (x + 6) I A L (by omega) (by omega) (by rw [hx]; show Int32.ofNat (6 * k) + Int32.ofNat 6 = _; rw [← Int32.ofNat_add]; rfl) hI
    refine l_iload_n (pc' := 19) (i := 3) rfl rfl dL_law_18 rfl ?_
    refine l_aload_n (pc' := 20) (i := 0) rfl rfl dL_law_19 rfl ?_
    refine l_slen (pc' := 21) dL_law_20 rfl ?_
    refine l_bipush (v := 6) (pc' := 23) (by decide) dL_law_21 rfl ?_
    refine l_isub (pc' := 24) dL_law_23 rfl ?_
    refine l_icmp_gt (tgt := 874) (pc' := 27) dL_law_24 (by decide) rfl (fun _ => ?_) (fun hc => ?_)
    · refine l_iconst (v := 1) (pc' := 875) (by decide) dL_law_874 rfl ?_
      exact l_ret dL_law_875
    have h6 := lw_ix hL hk hx hc
    refine l_aload_n (pc' := 28) (i := 0) rfl rfl dL_law_27 rfl ?_
    refine l_iload_n (pc' := 29) (i := 3) rfl rfl dL_law_28 rfl ?_
    refine l_sld (pc' := 30) (lw_in0 hL hx h6) dL_law_29 rfl ?_
    refine l_bipush (v := 31) (pc' := 32) (by decide) dL_law_30 rfl ?_
    refine l_iand (pc' := 33) dL_law_32 rfl ?_
    generalize xs x.toNatClampNeg &&& 31 = z
    by_cases q0 : z = 0
    · subst q0
      refine l_swIn (off := 111) (tgt := 144) dL_law_33 (by decide) (by decide) (by rfl) (by decide) ?_
      obtain ⟨r, I1, A1, L1, I2, A2, L2, e1, e2, hI2⟩ := h_plane (xs (x + 1).toNatClampNeg) (xs (x + 2).toNatClampNeg) (xs (x + 3).toNatClampNeg) (xs (x + 4).toNatClampNeg) I A L hI
      refine l_aload_n (pc' := 145) (i := 1) rfl rfl dL_law_144 rfl ?_
      refine l_aload_n (pc' := 146) (i := 0) rfl rfl dL_law_145 rfl ?_
      refine l_iload_n (pc' := 147) (i := 3) rfl rfl dL_law_146 rfl ?_
      refine l_iconst (v := 1) (pc' := 148) (by decide) dL_law_147 rfl ?_
      refine l_iadd (pc' := 149) dL_law_148 rfl ?_
      refine l_sld (pc' := 150) (lw_in (j := 1) hL hx h6 (by omega)) dL_law_149 rfl ?_
      refine l_aload_n (pc' := 151) (i := 0) rfl rfl dL_law_150 rfl ?_
      refine l_iload_n (pc' := 152) (i := 3) rfl rfl dL_law_151 rfl ?_
      refine l_iconst (v := 2) (pc' := 153) (by decide) dL_law_152 rfl ?_
      refine l_iadd (pc' := 154) dL_law_153 rfl ?_
      refine l_sld (pc' := 155) (lw_in (j := 2) hL hx h6 (by omega)) dL_law_154 rfl ?_
      refine l_aload_n (pc' := 156) (i := 0) rfl rfl dL_law_155 rfl ?_
      refine l_iload_n (pc' := 157) (i := 3) rfl rfl dL_law_156 rfl ?_
      refine l_iconst (v := 3) (pc' := 158) (by decide) dL_law_157 rfl ?_
      refine l_iadd (pc' := 159) dL_law_158 rfl ?_
      refine l_sld (pc' := 160) (lw_in (j := 3) hL hx h6 (by omega)) dL_law_159 rfl ?_
      refine l_aload_n (pc' := 161) (i := 0) rfl rfl dL_law_160 rfl ?_
      refine l_iload_n (pc' := 162) (i := 3) rfl rfl dL_law_161 rfl ?_
      refine l_iconst (v := 4) (pc' := 163) (by decide) dL_law_162 rfl ?_
      refine l_iadd (pc' := 164) dL_law_163 rfl ?_
      refine l_sld (pc' := 165) (lw_in (j := 4) hL hx h6 (by omega)) dL_law_164 rfl ?_
      refine l_call (pc' := 168) dL_law_165 rfl mw_384 mv_X6_plane rfl (Nat.le_of_ble_eq_true rfl) (Nat.le_of_ble_eq_true rfl) rfl (Nat.le_of_ble_eq_true rfl) (Nat.le_of_ble_eq_true rfl) rfl (c_X6_plane _ _ _ _ e1) rfl ?_
      change EvL Ln xs 168 [some (.ref 72), some (.ref 0), some (.ref 59), some (.int x)] [.int r] I1 A1 L1
      refine l_aload_n (pc' := 169) (i := 2) rfl rfl dL_law_168 rfl ?_
      refine l_aload_n (pc' := 170) (i := 0) rfl rfl dL_law_169 rfl ?_
      refine l_iload_n (pc' := 171) (i := 3) rfl rfl dL_law_170 rfl ?_
      refine l_iconst (v := 1) (pc' := 172) (by decide) dL_law_171 rfl ?_
      refine l_iadd (pc' := 173) dL_law_172 rfl ?_
      refine l_sld (pc' := 174) (lw_in (j := 1) hL hx h6 (by omega)) dL_law_173 rfl ?_
      refine l_aload_n (pc' := 175) (i := 0) rfl rfl dL_law_174 rfl ?_
      refine l_iload_n (pc' := 176) (i := 3) rfl rfl dL_law_175 rfl ?_
      refine l_iconst (v := 2) (pc' := 177) (by decide) dL_law_176 rfl ?_
      refine l_iadd (pc' := 178) dL_law_177 rfl ?_
      refine l_sld (pc' := 179) (lw_in (j := 2) hL hx h6 (by omega)) dL_law_178 rfl ?_
      refine l_aload_n (pc' := 180) (i := 0) rfl rfl dL_law_179 rfl ?_
      refine l_iload_n (pc' := 181) (i := 3) rfl rfl dL_law_180 rfl ?_
      refine l_iconst (v := 3) (pc' := 182) (by decide) dL_law_181 rfl ?_
      refine l_iadd (pc' := 183) dL_law_182 rfl ?_
      refine l_sld (pc' := 184) (lw_in (j := 3) hL hx h6 (by omega)) dL_law_183 rfl ?_
      refine l_aload_n (pc' := 185) (i := 0) rfl rfl dL_law_184 rfl ?_
      refine l_iload_n (pc' := 186) (i := 3) rfl rfl dL_law_185 rfl ?_
      refine l_iconst (v := 4) (pc' := 187) (by decide) dL_law_186 rfl ?_
      refine l_iadd (pc' := 188) dL_law_187 rfl ?_
      refine l_sld (pc' := 189) (lw_in (j := 4) hL hx h6 (by omega)) dL_law_188 rfl ?_
      refine l_call (pc' := 192) dL_law_189 rfl mw_844 mv_X7_plane rfl (Nat.le_of_ble_eq_true rfl) (Nat.le_of_ble_eq_true rfl) rfl (Nat.le_of_ble_eq_true rfl) (Nat.le_of_ble_eq_true rfl) rfl (c_X7_plane _ _ _ _ e2) rfl ?_
      change EvL Ln xs 192 [some (.ref 72), some (.ref 0), some (.ref 59), some (.int x)] [.int r, .int r] I2 A2 L2
      refine l_icmp_eq (tgt := 868) dL_law_192 (by decide) ?_
      exact hend I2 A2 L2 hI2 h6
    by_cases q1 : z = 1
    · subst q1
      refine l_swIn (off := 164) (tgt := 197) dL_law_33 (by decide) (by decide) (by rfl) (by decide) ?_
      obtain ⟨r, I1, A1, L1, I2, A2, L2, e1, e2, hI2⟩ := h_family (xs (x + 1).toNatClampNeg) (xs (x + 2).toNatClampNeg) (xs (x + 3).toNatClampNeg) (xs (x + 4).toNatClampNeg) (xs (x + 5).toNatClampNeg) I A L hI
      refine l_aload_n (pc' := 198) (i := 1) rfl rfl dL_law_197 rfl ?_
      refine l_aload_n (pc' := 199) (i := 0) rfl rfl dL_law_198 rfl ?_
      refine l_iload_n (pc' := 200) (i := 3) rfl rfl dL_law_199 rfl ?_
      refine l_iconst (v := 1) (pc' := 201) (by decide) dL_law_200 rfl ?_
      refine l_iadd (pc' := 202) dL_law_201 rfl ?_
      refine l_sld (pc' := 203) (lw_in (j := 1) hL hx h6 (by omega)) dL_law_202 rfl ?_
      refine l_aload_n (pc' := 204) (i := 0) rfl rfl dL_law_203 rfl ?_
      refine l_iload_n (pc' := 205) (i := 3) rfl rfl dL_law_204 rfl ?_
      refine l_iconst (v := 2) (pc' := 206) (by decide) dL_law_205 rfl ?_
      refine l_iadd (pc' := 207) dL_law_206 rfl ?_
      refine l_sld (pc' := 208) (lw_in (j := 2) hL hx h6 (by omega)) dL_law_207 rfl ?_
      refine l_aload_n (pc' := 209) (i := 0) rfl rfl dL_law_208 rfl ?_
      refine l_iload_n (pc' := 210) (i := 3) rfl rfl dL_law_209 rfl ?_
      refine l_iconst (v := 3) (pc' := 211) (by decide) dL_law_210 rfl ?_
      refine l_iadd (pc' := 212) dL_law_211 rfl ?_
      refine l_sld (pc' := 213) (lw_in (j := 3) hL hx h6 (by omega)) dL_law_212 rfl ?_
      refine l_aload_n (pc' := 214) (i := 0) rfl rfl dL_law_213 rfl ?_
      refine l_iload_n (pc' := 215) (i := 3) rfl rfl dL_law_214 rfl ?_
      refine l_iconst (v := 4) (pc' := 216) (by decide) dL_law_215 rfl ?_
      refine l_iadd (pc' := 217) dL_law_216 rfl ?_
      refine l_sld (pc' := 218) (lw_in (j := 4) hL hx h6 (by omega)) dL_law_217 rfl ?_
      refine l_aload_n (pc' := 219) (i := 0) rfl rfl dL_law_218 rfl ?_
      refine l_iload_n (pc' := 220) (i := 3) rfl rfl dL_law_219 rfl ?_
      refine l_iconst (v := 5) (pc' := 221) (by decide) dL_law_220 rfl ?_
      refine l_iadd (pc' := 222) dL_law_221 rfl ?_
      refine l_sld (pc' := 223) (lw_in (j := 5) hL hx h6 (by omega)) dL_law_222 rfl ?_
      refine l_call (pc' := 226) dL_law_223 rfl mw_428 mv_X6_family rfl (Nat.le_of_ble_eq_true rfl) (Nat.le_of_ble_eq_true rfl) rfl (Nat.le_of_ble_eq_true rfl) (Nat.le_of_ble_eq_true rfl) rfl (c_X6_family _ _ _ _ _ e1) rfl ?_
      change EvL Ln xs 226 [some (.ref 72), some (.ref 0), some (.ref 59), some (.int x)] [.int r] I1 A1 L1
      refine l_aload_n (pc' := 227) (i := 2) rfl rfl dL_law_226 rfl ?_
      refine l_aload_n (pc' := 228) (i := 0) rfl rfl dL_law_227 rfl ?_
      refine l_iload_n (pc' := 229) (i := 3) rfl rfl dL_law_228 rfl ?_
      refine l_iconst (v := 1) (pc' := 230) (by decide) dL_law_229 rfl ?_
      refine l_iadd (pc' := 231) dL_law_230 rfl ?_
      refine l_sld (pc' := 232) (lw_in (j := 1) hL hx h6 (by omega)) dL_law_231 rfl ?_
      refine l_aload_n (pc' := 233) (i := 0) rfl rfl dL_law_232 rfl ?_
      refine l_iload_n (pc' := 234) (i := 3) rfl rfl dL_law_233 rfl ?_
      refine l_iconst (v := 2) (pc' := 235) (by decide) dL_law_234 rfl ?_
      refine l_iadd (pc' := 236) dL_law_235 rfl ?_
      refine l_sld (pc' := 237) (lw_in (j := 2) hL hx h6 (by omega)) dL_law_236 rfl ?_
      refine l_aload_n (pc' := 238) (i := 0) rfl rfl dL_law_237 rfl ?_
      refine l_iload_n (pc' := 239) (i := 3) rfl rfl dL_law_238 rfl ?_
      refine l_iconst (v := 3) (pc' := 240) (by decide) dL_law_239 rfl ?_
      refine l_iadd (pc' := 241) dL_law_240 rfl ?_
      refine l_sld (pc' := 242) (lw_in (j := 3) hL hx h6 (by omega)) dL_law_241 rfl ?_
      refine l_aload_n (pc' := 243) (i := 0) rfl rfl dL_law_242 rfl ?_
      refine l_iload_n (pc' := 244) (i := 3) rfl rfl dL_law_243 rfl ?_
      refine l_iconst (v := 4) (pc' := 245) (by decide) dL_law_244 rfl ?_
      refine l_iadd (pc' := 246) dL_law_245 rfl ?_
      refine l_sld (pc' := 247) (lw_in (j := 4) hL hx h6 (by omega)) dL_law_246 rfl ?_
      refine l_aload_n (pc' := 248) (i := 0) rfl rfl dL_law_247 rfl ?_
      refine l_iload_n (pc' := 249) (i := 3) rfl rfl dL_law_248 rfl ?_
      refine l_iconst (v := 5) (pc' := 250) (by decide) dL_law_249 rfl ?_
      refine l_iadd (pc' := 251) dL_law_250 rfl ?_
      refine l_sld (pc' := 252) (lw_in (j := 5) hL hx h6 (by omega)) dL_law_251 rfl ?_
      refine l_call (pc' := 255) dL_law_252 rfl mw_870 mv_X7_family rfl (Nat.le_of_ble_eq_true rfl) (Nat.le_of_ble_eq_true rfl) rfl (Nat.le_of_ble_eq_true rfl) (Nat.le_of_ble_eq_true rfl) rfl (c_X7_family _ _ _ _ _ e2) rfl ?_
      change EvL Ln xs 255 [some (.ref 72), some (.ref 0), some (.ref 59), some (.int x)] [.int r, .int r] I2 A2 L2
      refine l_icmp_eq (tgt := 868) dL_law_255 (by decide) ?_
      exact hend I2 A2 L2 hI2 h6
    by_cases q2 : z = 2
    · subst q2
      refine l_swIn (off := 227) (tgt := 260) dL_law_33 (by decide) (by decide) (by rfl) (by decide) ?_
      obtain ⟨r, I1, A1, L1, I2, A2, L2, e1, e2, hI2⟩ := h_off (xs (x + 1).toNatClampNeg) (xs (x + 2).toNatClampNeg) I A L hI
      refine l_aload_n (pc' := 261) (i := 1) rfl rfl dL_law_260 rfl ?_
      refine l_aload_n (pc' := 262) (i := 0) rfl rfl dL_law_261 rfl ?_
      refine l_iload_n (pc' := 263) (i := 3) rfl rfl dL_law_262 rfl ?_
      refine l_iconst (v := 1) (pc' := 264) (by decide) dL_law_263 rfl ?_
      refine l_iadd (pc' := 265) dL_law_264 rfl ?_
      refine l_sld (pc' := 266) (lw_in (j := 1) hL hx h6 (by omega)) dL_law_265 rfl ?_
      refine l_aload_n (pc' := 267) (i := 0) rfl rfl dL_law_266 rfl ?_
      refine l_iload_n (pc' := 268) (i := 3) rfl rfl dL_law_267 rfl ?_
      refine l_iconst (v := 2) (pc' := 269) (by decide) dL_law_268 rfl ?_
      refine l_iadd (pc' := 270) dL_law_269 rfl ?_
      refine l_sld (pc' := 271) (lw_in (j := 2) hL hx h6 (by omega)) dL_law_270 rfl ?_
      refine l_call (pc' := 274) dL_law_271 rfl mw_465 mv_X6_off rfl (Nat.le_of_ble_eq_true rfl) (Nat.le_of_ble_eq_true rfl) rfl (Nat.le_of_ble_eq_true rfl) (Nat.le_of_ble_eq_true rfl) rfl (c_X6_off _ _ e1) rfl ?_
      change EvL Ln xs 274 [some (.ref 72), some (.ref 0), some (.ref 59), some (.int x)] [.int r] I1 A1 L1
      refine l_aload_n (pc' := 275) (i := 2) rfl rfl dL_law_274 rfl ?_
      refine l_aload_n (pc' := 276) (i := 0) rfl rfl dL_law_275 rfl ?_
      refine l_iload_n (pc' := 277) (i := 3) rfl rfl dL_law_276 rfl ?_
      refine l_iconst (v := 1) (pc' := 278) (by decide) dL_law_277 rfl ?_
      refine l_iadd (pc' := 279) dL_law_278 rfl ?_
      refine l_sld (pc' := 280) (lw_in (j := 1) hL hx h6 (by omega)) dL_law_279 rfl ?_
      refine l_aload_n (pc' := 281) (i := 0) rfl rfl dL_law_280 rfl ?_
      refine l_iload_n (pc' := 282) (i := 3) rfl rfl dL_law_281 rfl ?_
      refine l_iconst (v := 2) (pc' := 283) (by decide) dL_law_282 rfl ?_
      refine l_iadd (pc' := 284) dL_law_283 rfl ?_
      refine l_sld (pc' := 285) (lw_in (j := 2) hL hx h6 (by omega)) dL_law_284 rfl ?_
      refine l_call (pc' := 288) dL_law_285 rfl mw_886 mv_X7_off rfl (Nat.le_of_ble_eq_true rfl) (Nat.le_of_ble_eq_true rfl) rfl (Nat.le_of_ble_eq_true rfl) (Nat.le_of_ble_eq_true rfl) rfl (c_X7_off _ _ e2) rfl ?_
      change EvL Ln xs 288 [some (.ref 72), some (.ref 0), some (.ref 59), some (.int x)] [.int r, .int r] I2 A2 L2
      refine l_icmp_eq (tgt := 868) dL_law_288 (by decide) ?_
      exact hend I2 A2 L2 hI2 h6
    by_cases q3 : z = 3
    · subst q3
      refine l_swIn (off := 260) (tgt := 293) dL_law_33 (by decide) (by decide) (by rfl) (by decide) ?_
      obtain ⟨r, I1, A1, L1, I2, A2, L2, e1, e2, hI2⟩ := h_drop (xs (x + 1).toNatClampNeg) I A L hI
      refine l_aload_n (pc' := 294) (i := 1) rfl rfl dL_law_293 rfl ?_
      refine l_aload_n (pc' := 295) (i := 0) rfl rfl dL_law_294 rfl ?_
      refine l_iload_n (pc' := 296) (i := 3) rfl rfl dL_law_295 rfl ?_
      refine l_iconst (v := 1) (pc' := 297) (by decide) dL_law_296 rfl ?_
      refine l_iadd (pc' := 298) dL_law_297 rfl ?_
      refine l_sld (pc' := 299) (lw_in (j := 1) hL hx h6 (by omega)) dL_law_298 rfl ?_
      refine l_call (pc' := 302) dL_law_299 rfl mw_473 mv_X6_drop rfl (Nat.le_of_ble_eq_true rfl) (Nat.le_of_ble_eq_true rfl) rfl (Nat.le_of_ble_eq_true rfl) (Nat.le_of_ble_eq_true rfl) rfl (c_X6_drop _ e1) rfl ?_
      change EvL Ln xs 302 [some (.ref 72), some (.ref 0), some (.ref 59), some (.int x)] [.int r] I1 A1 L1
      refine l_aload_n (pc' := 303) (i := 2) rfl rfl dL_law_302 rfl ?_
      refine l_aload_n (pc' := 304) (i := 0) rfl rfl dL_law_303 rfl ?_
      refine l_iload_n (pc' := 305) (i := 3) rfl rfl dL_law_304 rfl ?_
      refine l_iconst (v := 1) (pc' := 306) (by decide) dL_law_305 rfl ?_
      refine l_iadd (pc' := 307) dL_law_306 rfl ?_
      refine l_sld (pc' := 308) (lw_in (j := 1) hL hx h6 (by omega)) dL_law_307 rfl ?_
      refine l_call (pc' := 311) dL_law_308 rfl mw_898 mv_X7_drop rfl (Nat.le_of_ble_eq_true rfl) (Nat.le_of_ble_eq_true rfl) rfl (Nat.le_of_ble_eq_true rfl) (Nat.le_of_ble_eq_true rfl) rfl (c_X7_drop _ e2) rfl ?_
      change EvL Ln xs 311 [some (.ref 72), some (.ref 0), some (.ref 59), some (.int x)] [.int r, .int r] I2 A2 L2
      refine l_icmp_eq (tgt := 868) dL_law_311 (by decide) ?_
      exact hend I2 A2 L2 hI2 h6
    by_cases q4 : z = 4
    · subst q4
      refine l_swIn (off := 283) (tgt := 316) dL_law_33 (by decide) (by decide) (by rfl) (by decide) ?_
      obtain ⟨r, I1, A1, L1, I2, A2, L2, e1, e2, hI2⟩ := h_anew  I A L hI
      refine l_aload_n (pc' := 317) (i := 1) rfl rfl dL_law_316 rfl ?_
      refine l_call (pc' := 320) dL_law_317 rfl mw_481 mv_X6_anew rfl (Nat.le_of_ble_eq_true rfl) (Nat.le_of_ble_eq_true rfl) rfl (Nat.le_of_ble_eq_true rfl) (Nat.le_of_ble_eq_true rfl) rfl (c_X6_anew e1) rfl ?_
      change EvL Ln xs 320 [some (.ref 72), some (.ref 0), some (.ref 59), some (.int x)] [.int r] I1 A1 L1
      refine l_aload_n (pc' := 321) (i := 2) rfl rfl dL_law_320 rfl ?_
      refine l_call (pc' := 324) dL_law_321 rfl mw_906 mv_X7_anew rfl (Nat.le_of_ble_eq_true rfl) (Nat.le_of_ble_eq_true rfl) rfl (Nat.le_of_ble_eq_true rfl) (Nat.le_of_ble_eq_true rfl) rfl (c_X7_anew e2) rfl ?_
      change EvL Ln xs 324 [some (.ref 72), some (.ref 0), some (.ref 59), some (.int x)] [.int r, .int r] I2 A2 L2
      refine l_icmp_eq (tgt := 868) dL_law_324 (by decide) ?_
      exact hend I2 A2 L2 hI2 h6
    by_cases q5 : z = 5
    · subst q5
      refine l_swIn (off := 296) (tgt := 329) dL_law_33 (by decide) (by decide) (by rfl) (by decide) ?_
      obtain ⟨r, I1, A1, L1, I2, A2, L2, e1, e2, hI2⟩ := h_draw (xs (x + 1).toNatClampNeg) (xs (x + 2).toNatClampNeg) I A L hI
      refine l_aload_n (pc' := 330) (i := 1) rfl rfl dL_law_329 rfl ?_
      refine l_aload_n (pc' := 331) (i := 0) rfl rfl dL_law_330 rfl ?_
      refine l_iload_n (pc' := 332) (i := 3) rfl rfl dL_law_331 rfl ?_
      refine l_iconst (v := 1) (pc' := 333) (by decide) dL_law_332 rfl ?_
      refine l_iadd (pc' := 334) dL_law_333 rfl ?_
      refine l_sld (pc' := 335) (lw_in (j := 1) hL hx h6 (by omega)) dL_law_334 rfl ?_
      refine l_aload_n (pc' := 336) (i := 0) rfl rfl dL_law_335 rfl ?_
      refine l_iload_n (pc' := 337) (i := 3) rfl rfl dL_law_336 rfl ?_
      refine l_iconst (v := 2) (pc' := 338) (by decide) dL_law_337 rfl ?_
      refine l_iadd (pc' := 339) dL_law_338 rfl ?_
      refine l_sld (pc' := 340) (lw_in (j := 2) hL hx h6 (by omega)) dL_law_339 rfl ?_
      refine l_call (pc' := 343) dL_law_340 rfl mw_485 mv_X6_draw rfl (Nat.le_of_ble_eq_true rfl) (Nat.le_of_ble_eq_true rfl) rfl (Nat.le_of_ble_eq_true rfl) (Nat.le_of_ble_eq_true rfl) rfl (c_X6_draw _ _ e1) rfl ?_
      change EvL Ln xs 343 [some (.ref 72), some (.ref 0), some (.ref 59), some (.int x)] [.int r] I1 A1 L1
      refine l_aload_n (pc' := 344) (i := 2) rfl rfl dL_law_343 rfl ?_
      refine l_aload_n (pc' := 345) (i := 0) rfl rfl dL_law_344 rfl ?_
      refine l_iload_n (pc' := 346) (i := 3) rfl rfl dL_law_345 rfl ?_
      refine l_iconst (v := 1) (pc' := 347) (by decide) dL_law_346 rfl ?_
      refine l_iadd (pc' := 348) dL_law_347 rfl ?_
      refine l_sld (pc' := 349) (lw_in (j := 1) hL hx h6 (by omega)) dL_law_348 rfl ?_
      refine l_aload_n (pc' := 350) (i := 0) rfl rfl dL_law_349 rfl ?_
      refine l_iload_n (pc' := 351) (i := 3) rfl rfl dL_law_350 rfl ?_
      refine l_iconst (v := 2) (pc' := 352) (by decide) dL_law_351 rfl ?_
      refine l_iadd (pc' := 353) dL_law_352 rfl ?_
      refine l_sld (pc' := 354) (lw_in (j := 2) hL hx h6 (by omega)) dL_law_353 rfl ?_
      refine l_call (pc' := 357) dL_law_354 rfl mw_910 mv_X7_draw rfl (Nat.le_of_ble_eq_true rfl) (Nat.le_of_ble_eq_true rfl) rfl (Nat.le_of_ble_eq_true rfl) (Nat.le_of_ble_eq_true rfl) rfl (c_X7_draw _ _ e2) rfl ?_
      change EvL Ln xs 357 [some (.ref 72), some (.ref 0), some (.ref 59), some (.int x)] [.int r, .int r] I2 A2 L2
      refine l_icmp_eq (tgt := 868) dL_law_357 (by decide) ?_
      exact hend I2 A2 L2 hI2 h6
    by_cases q6 : z = 6
    · subst q6
      refine l_swIn (off := 329) (tgt := 362) dL_law_33 (by decide) (by decide) (by rfl) (by decide) ?_
      obtain ⟨r, I1, A1, L1, I2, A2, L2, e1, e2, hI2⟩ := h_of (xs (x + 1).toNatClampNeg) (xs (x + 2).toNatClampNeg) I A L hI
      refine l_aload_n (pc' := 363) (i := 1) rfl rfl dL_law_362 rfl ?_
      refine l_aload_n (pc' := 364) (i := 0) rfl rfl dL_law_363 rfl ?_
      refine l_iload_n (pc' := 365) (i := 3) rfl rfl dL_law_364 rfl ?_
      refine l_iconst (v := 1) (pc' := 366) (by decide) dL_law_365 rfl ?_
      refine l_iadd (pc' := 367) dL_law_366 rfl ?_
      refine l_sld (pc' := 368) (lw_in (j := 1) hL hx h6 (by omega)) dL_law_367 rfl ?_
      refine l_aload_n (pc' := 369) (i := 0) rfl rfl dL_law_368 rfl ?_
      refine l_iload_n (pc' := 370) (i := 3) rfl rfl dL_law_369 rfl ?_
      refine l_iconst (v := 2) (pc' := 371) (by decide) dL_law_370 rfl ?_
      refine l_iadd (pc' := 372) dL_law_371 rfl ?_
      refine l_sld (pc' := 373) (lw_in (j := 2) hL hx h6 (by omega)) dL_law_372 rfl ?_
      refine l_call (pc' := 376) dL_law_373 rfl mw_568 mv_X6_of rfl (Nat.le_of_ble_eq_true rfl) (Nat.le_of_ble_eq_true rfl) rfl (Nat.le_of_ble_eq_true rfl) (Nat.le_of_ble_eq_true rfl) rfl (c_X6_of _ _ e1) rfl ?_
      change EvL Ln xs 376 [some (.ref 72), some (.ref 0), some (.ref 59), some (.int x)] [.int r] I1 A1 L1
      refine l_aload_n (pc' := 377) (i := 2) rfl rfl dL_law_376 rfl ?_
      refine l_aload_n (pc' := 378) (i := 0) rfl rfl dL_law_377 rfl ?_
      refine l_iload_n (pc' := 379) (i := 3) rfl rfl dL_law_378 rfl ?_
      refine l_iconst (v := 1) (pc' := 380) (by decide) dL_law_379 rfl ?_
      refine l_iadd (pc' := 381) dL_law_380 rfl ?_
      refine l_sld (pc' := 382) (lw_in (j := 1) hL hx h6 (by omega)) dL_law_381 rfl ?_
      refine l_aload_n (pc' := 383) (i := 0) rfl rfl dL_law_382 rfl ?_
      refine l_iload_n (pc' := 384) (i := 3) rfl rfl dL_law_383 rfl ?_
      refine l_iconst (v := 2) (pc' := 385) (by decide) dL_law_384 rfl ?_
      refine l_iadd (pc' := 386) dL_law_385 rfl ?_
      refine l_sld (pc' := 387) (lw_in (j := 2) hL hx h6 (by omega)) dL_law_386 rfl ?_
      refine l_call (pc' := 390) dL_law_387 rfl mw_963 mv_X7_of rfl (Nat.le_of_ble_eq_true rfl) (Nat.le_of_ble_eq_true rfl) rfl (Nat.le_of_ble_eq_true rfl) (Nat.le_of_ble_eq_true rfl) rfl (c_X7_of _ _ e2) rfl ?_
      change EvL Ln xs 390 [some (.ref 72), some (.ref 0), some (.ref 59), some (.int x)] [.int r, .int r] I2 A2 L2
      refine l_icmp_eq (tgt := 868) dL_law_390 (by decide) ?_
      exact hend I2 A2 L2 hI2 h6
    by_cases q7 : z = 7
    · subst q7
      refine l_swIn (off := 362) (tgt := 395) dL_law_33 (by decide) (by decide) (by rfl) (by decide) ?_
      obtain ⟨r, I1, A1, L1, I2, A2, L2, e1, e2, hI2⟩ := h_member (xs (x + 1).toNatClampNeg) (xs (x + 2).toNatClampNeg) (xs (x + 3).toNatClampNeg) (xs (x + 4).toNatClampNeg) (xs (x + 5).toNatClampNeg) I A L hI
      refine l_aload_n (pc' := 396) (i := 1) rfl rfl dL_law_395 rfl ?_
      refine l_aload_n (pc' := 397) (i := 0) rfl rfl dL_law_396 rfl ?_
      refine l_iload_n (pc' := 398) (i := 3) rfl rfl dL_law_397 rfl ?_
      refine l_iconst (v := 1) (pc' := 399) (by decide) dL_law_398 rfl ?_
      refine l_iadd (pc' := 400) dL_law_399 rfl ?_
      refine l_sld (pc' := 401) (lw_in (j := 1) hL hx h6 (by omega)) dL_law_400 rfl ?_
      refine l_aload_n (pc' := 402) (i := 0) rfl rfl dL_law_401 rfl ?_
      refine l_iload_n (pc' := 403) (i := 3) rfl rfl dL_law_402 rfl ?_
      refine l_iconst (v := 2) (pc' := 404) (by decide) dL_law_403 rfl ?_
      refine l_iadd (pc' := 405) dL_law_404 rfl ?_
      refine l_sld (pc' := 406) (lw_in (j := 2) hL hx h6 (by omega)) dL_law_405 rfl ?_
      refine l_aload_n (pc' := 407) (i := 0) rfl rfl dL_law_406 rfl ?_
      refine l_iload_n (pc' := 408) (i := 3) rfl rfl dL_law_407 rfl ?_
      refine l_iconst (v := 3) (pc' := 409) (by decide) dL_law_408 rfl ?_
      refine l_iadd (pc' := 410) dL_law_409 rfl ?_
      refine l_sld (pc' := 411) (lw_in (j := 3) hL hx h6 (by omega)) dL_law_410 rfl ?_
      refine l_aload_n (pc' := 412) (i := 0) rfl rfl dL_law_411 rfl ?_
      refine l_iload_n (pc' := 413) (i := 3) rfl rfl dL_law_412 rfl ?_
      refine l_iconst (v := 4) (pc' := 414) (by decide) dL_law_413 rfl ?_
      refine l_iadd (pc' := 415) dL_law_414 rfl ?_
      refine l_sld (pc' := 416) (lw_in (j := 4) hL hx h6 (by omega)) dL_law_415 rfl ?_
      refine l_aload_n (pc' := 417) (i := 0) rfl rfl dL_law_416 rfl ?_
      refine l_iload_n (pc' := 418) (i := 3) rfl rfl dL_law_417 rfl ?_
      refine l_iconst (v := 5) (pc' := 419) (by decide) dL_law_418 rfl ?_
      refine l_iadd (pc' := 420) dL_law_419 rfl ?_
      refine l_sld (pc' := 421) (lw_in (j := 5) hL hx h6 (by omega)) dL_law_420 rfl ?_
      refine l_call (pc' := 424) dL_law_421 rfl mw_585 mv_X6_member rfl (Nat.le_of_ble_eq_true rfl) (Nat.le_of_ble_eq_true rfl) rfl (Nat.le_of_ble_eq_true rfl) (Nat.le_of_ble_eq_true rfl) rfl (c_X6_member _ _ _ _ _ e1) rfl ?_
      change EvL Ln xs 424 [some (.ref 72), some (.ref 0), some (.ref 59), some (.int x)] [.int r] I1 A1 L1
      refine l_aload_n (pc' := 425) (i := 2) rfl rfl dL_law_424 rfl ?_
      refine l_aload_n (pc' := 426) (i := 0) rfl rfl dL_law_425 rfl ?_
      refine l_iload_n (pc' := 427) (i := 3) rfl rfl dL_law_426 rfl ?_
      refine l_iconst (v := 1) (pc' := 428) (by decide) dL_law_427 rfl ?_
      refine l_iadd (pc' := 429) dL_law_428 rfl ?_
      refine l_sld (pc' := 430) (lw_in (j := 1) hL hx h6 (by omega)) dL_law_429 rfl ?_
      refine l_aload_n (pc' := 431) (i := 0) rfl rfl dL_law_430 rfl ?_
      refine l_iload_n (pc' := 432) (i := 3) rfl rfl dL_law_431 rfl ?_
      refine l_iconst (v := 2) (pc' := 433) (by decide) dL_law_432 rfl ?_
      refine l_iadd (pc' := 434) dL_law_433 rfl ?_
      refine l_sld (pc' := 435) (lw_in (j := 2) hL hx h6 (by omega)) dL_law_434 rfl ?_
      refine l_aload_n (pc' := 436) (i := 0) rfl rfl dL_law_435 rfl ?_
      refine l_iload_n (pc' := 437) (i := 3) rfl rfl dL_law_436 rfl ?_
      refine l_iconst (v := 3) (pc' := 438) (by decide) dL_law_437 rfl ?_
      refine l_iadd (pc' := 439) dL_law_438 rfl ?_
      refine l_sld (pc' := 440) (lw_in (j := 3) hL hx h6 (by omega)) dL_law_439 rfl ?_
      refine l_aload_n (pc' := 441) (i := 0) rfl rfl dL_law_440 rfl ?_
      refine l_iload_n (pc' := 442) (i := 3) rfl rfl dL_law_441 rfl ?_
      refine l_iconst (v := 4) (pc' := 443) (by decide) dL_law_442 rfl ?_
      refine l_iadd (pc' := 444) dL_law_443 rfl ?_
      refine l_sld (pc' := 445) (lw_in (j := 4) hL hx h6 (by omega)) dL_law_444 rfl ?_
      refine l_aload_n (pc' := 446) (i := 0) rfl rfl dL_law_445 rfl ?_
      refine l_iload_n (pc' := 447) (i := 3) rfl rfl dL_law_446 rfl ?_
      refine l_iconst (v := 5) (pc' := 448) (by decide) dL_law_447 rfl ?_
      refine l_iadd (pc' := 449) dL_law_448 rfl ?_
      refine l_sld (pc' := 450) (lw_in (j := 5) hL hx h6 (by omega)) dL_law_449 rfl ?_
      refine l_call (pc' := 453) dL_law_450 rfl mw_983 mv_X7_member rfl (Nat.le_of_ble_eq_true rfl) (Nat.le_of_ble_eq_true rfl) rfl (Nat.le_of_ble_eq_true rfl) (Nat.le_of_ble_eq_true rfl) rfl (c_X7_member _ _ _ _ _ e2) rfl ?_
      change EvL Ln xs 453 [some (.ref 72), some (.ref 0), some (.ref 59), some (.int x)] [.int r, .int r] I2 A2 L2
      refine l_icmp_eq (tgt := 868) dL_law_453 (by decide) ?_
      exact hend I2 A2 L2 hI2 h6
    by_cases q8 : z = 8
    · subst q8
      refine l_swIn (off := 425) (tgt := 458) dL_law_33 (by decide) (by decide) (by rfl) (by decide) ?_
      obtain ⟨r, I1, A1, L1, I2, A2, L2, e1, e2, hI2⟩ := h_all (xs (x + 1).toNatClampNeg) I A L hI
      refine l_aload_n (pc' := 459) (i := 1) rfl rfl dL_law_458 rfl ?_
      refine l_aload_n (pc' := 460) (i := 0) rfl rfl dL_law_459 rfl ?_
      refine l_iload_n (pc' := 461) (i := 3) rfl rfl dL_law_460 rfl ?_
      refine l_iconst (v := 1) (pc' := 462) (by decide) dL_law_461 rfl ?_
      refine l_iadd (pc' := 463) dL_law_462 rfl ?_
      refine l_sld (pc' := 464) (lw_in (j := 1) hL hx h6 (by omega)) dL_law_463 rfl ?_
      refine l_call (pc' := 467) dL_law_464 rfl mw_589 mv_X6_all rfl (Nat.le_of_ble_eq_true rfl) (Nat.le_of_ble_eq_true rfl) rfl (Nat.le_of_ble_eq_true rfl) (Nat.le_of_ble_eq_true rfl) rfl (c_X6_all _ e1) rfl ?_
      change EvL Ln xs 467 [some (.ref 72), some (.ref 0), some (.ref 59), some (.int x)] [.int r] I1 A1 L1
      refine l_aload_n (pc' := 468) (i := 2) rfl rfl dL_law_467 rfl ?_
      refine l_aload_n (pc' := 469) (i := 0) rfl rfl dL_law_468 rfl ?_
      refine l_iload_n (pc' := 470) (i := 3) rfl rfl dL_law_469 rfl ?_
      refine l_iconst (v := 1) (pc' := 471) (by decide) dL_law_470 rfl ?_
      refine l_iadd (pc' := 472) dL_law_471 rfl ?_
      refine l_sld (pc' := 473) (lw_in (j := 1) hL hx h6 (by omega)) dL_law_472 rfl ?_
      refine l_call (pc' := 476) dL_law_473 rfl mw_987 mv_X7_all rfl (Nat.le_of_ble_eq_true rfl) (Nat.le_of_ble_eq_true rfl) rfl (Nat.le_of_ble_eq_true rfl) (Nat.le_of_ble_eq_true rfl) rfl (c_X7_all _ e2) rfl ?_
      change EvL Ln xs 476 [some (.ref 72), some (.ref 0), some (.ref 59), some (.int x)] [.int r, .int r] I2 A2 L2
      refine l_icmp_eq (tgt := 868) dL_law_476 (by decide) ?_
      exact hend I2 A2 L2 hI2 h6
    by_cases q9 : z = 9
    · subst q9
      refine l_swIn (off := 448) (tgt := 481) dL_law_33 (by decide) (by decide) (by rfl) (by decide) ?_
      obtain ⟨r, I1, A1, L1, I2, A2, L2, e1, e2, hI2⟩ := h_corner (xs (x + 1).toNatClampNeg) (xs (x + 2).toNatClampNeg) I A L hI
      refine l_aload_n (pc' := 482) (i := 1) rfl rfl dL_law_481 rfl ?_
      refine l_aload_n (pc' := 483) (i := 0) rfl rfl dL_law_482 rfl ?_
      refine l_iload_n (pc' := 484) (i := 3) rfl rfl dL_law_483 rfl ?_
      refine l_iconst (v := 1) (pc' := 485) (by decide) dL_law_484 rfl ?_
      refine l_iadd (pc' := 486) dL_law_485 rfl ?_
      refine l_sld (pc' := 487) (lw_in (j := 1) hL hx h6 (by omega)) dL_law_486 rfl ?_
      refine l_aload_n (pc' := 488) (i := 0) rfl rfl dL_law_487 rfl ?_
      refine l_iload_n (pc' := 489) (i := 3) rfl rfl dL_law_488 rfl ?_
      refine l_iconst (v := 2) (pc' := 490) (by decide) dL_law_489 rfl ?_
      refine l_iadd (pc' := 491) dL_law_490 rfl ?_
      refine l_sld (pc' := 492) (lw_in (j := 2) hL hx h6 (by omega)) dL_law_491 rfl ?_
      refine l_call (pc' := 495) dL_law_492 rfl mw_619 mv_X6_corner rfl (Nat.le_of_ble_eq_true rfl) (Nat.le_of_ble_eq_true rfl) rfl (Nat.le_of_ble_eq_true rfl) (Nat.le_of_ble_eq_true rfl) rfl (c_X6_corner _ _ e1) rfl ?_
      change EvL Ln xs 495 [some (.ref 72), some (.ref 0), some (.ref 59), some (.int x)] [.int r] I1 A1 L1
      refine l_aload_n (pc' := 496) (i := 2) rfl rfl dL_law_495 rfl ?_
      refine l_aload_n (pc' := 497) (i := 0) rfl rfl dL_law_496 rfl ?_
      refine l_iload_n (pc' := 498) (i := 3) rfl rfl dL_law_497 rfl ?_
      refine l_iconst (v := 1) (pc' := 499) (by decide) dL_law_498 rfl ?_
      refine l_iadd (pc' := 500) dL_law_499 rfl ?_
      refine l_sld (pc' := 501) (lw_in (j := 1) hL hx h6 (by omega)) dL_law_500 rfl ?_
      refine l_aload_n (pc' := 502) (i := 0) rfl rfl dL_law_501 rfl ?_
      refine l_iload_n (pc' := 503) (i := 3) rfl rfl dL_law_502 rfl ?_
      refine l_iconst (v := 2) (pc' := 504) (by decide) dL_law_503 rfl ?_
      refine l_iadd (pc' := 505) dL_law_504 rfl ?_
      refine l_sld (pc' := 506) (lw_in (j := 2) hL hx h6 (by omega)) dL_law_505 rfl ?_
      refine l_call (pc' := 509) dL_law_506 rfl mw_1007 mv_X7_corner rfl (Nat.le_of_ble_eq_true rfl) (Nat.le_of_ble_eq_true rfl) rfl (Nat.le_of_ble_eq_true rfl) (Nat.le_of_ble_eq_true rfl) rfl (c_X7_corner _ _ e2) rfl ?_
      change EvL Ln xs 509 [some (.ref 72), some (.ref 0), some (.ref 59), some (.int x)] [.int r, .int r] I2 A2 L2
      refine l_icmp_eq (tgt := 868) dL_law_509 (by decide) ?_
      exact hend I2 A2 L2 hI2 h6
    by_cases q10 : z = 10
    · subst q10
      refine l_swIn (off := 481) (tgt := 514) dL_law_33 (by decide) (by decide) (by rfl) (by decide) ?_
      obtain ⟨r, I1, A1, L1, I2, A2, L2, e1, e2, hI2⟩ := h_meets (xs (x + 1).toNatClampNeg) (xs (x + 2).toNatClampNeg) I A L hI
      refine l_aload_n (pc' := 515) (i := 1) rfl rfl dL_law_514 rfl ?_
      refine l_aload_n (pc' := 516) (i := 0) rfl rfl dL_law_515 rfl ?_
      refine l_iload_n (pc' := 517) (i := 3) rfl rfl dL_law_516 rfl ?_
      refine l_iconst (v := 1) (pc' := 518) (by decide) dL_law_517 rfl ?_
      refine l_iadd (pc' := 519) dL_law_518 rfl ?_
      refine l_sld (pc' := 520) (lw_in (j := 1) hL hx h6 (by omega)) dL_law_519 rfl ?_
      refine l_aload_n (pc' := 521) (i := 0) rfl rfl dL_law_520 rfl ?_
      refine l_iload_n (pc' := 522) (i := 3) rfl rfl dL_law_521 rfl ?_
      refine l_iconst (v := 2) (pc' := 523) (by decide) dL_law_522 rfl ?_
      refine l_iadd (pc' := 524) dL_law_523 rfl ?_
      refine l_sld (pc' := 525) (lw_in (j := 2) hL hx h6 (by omega)) dL_law_524 rfl ?_
      refine l_call (pc' := 528) dL_law_525 rfl mw_636 mv_X6_meets rfl (Nat.le_of_ble_eq_true rfl) (Nat.le_of_ble_eq_true rfl) rfl (Nat.le_of_ble_eq_true rfl) (Nat.le_of_ble_eq_true rfl) rfl (c_X6_meets _ _ e1) rfl ?_
      change EvL Ln xs 528 [some (.ref 72), some (.ref 0), some (.ref 59), some (.int x)] [.int r] I1 A1 L1
      refine l_aload_n (pc' := 529) (i := 2) rfl rfl dL_law_528 rfl ?_
      refine l_aload_n (pc' := 530) (i := 0) rfl rfl dL_law_529 rfl ?_
      refine l_iload_n (pc' := 531) (i := 3) rfl rfl dL_law_530 rfl ?_
      refine l_iconst (v := 1) (pc' := 532) (by decide) dL_law_531 rfl ?_
      refine l_iadd (pc' := 533) dL_law_532 rfl ?_
      refine l_sld (pc' := 534) (lw_in (j := 1) hL hx h6 (by omega)) dL_law_533 rfl ?_
      refine l_aload_n (pc' := 535) (i := 0) rfl rfl dL_law_534 rfl ?_
      refine l_iload_n (pc' := 536) (i := 3) rfl rfl dL_law_535 rfl ?_
      refine l_iconst (v := 2) (pc' := 537) (by decide) dL_law_536 rfl ?_
      refine l_iadd (pc' := 538) dL_law_537 rfl ?_
      refine l_sld (pc' := 539) (lw_in (j := 2) hL hx h6 (by omega)) dL_law_538 rfl ?_
      refine l_call (pc' := 542) dL_law_539 rfl mw_1015 mv_X7_meets rfl (Nat.le_of_ble_eq_true rfl) (Nat.le_of_ble_eq_true rfl) rfl (Nat.le_of_ble_eq_true rfl) (Nat.le_of_ble_eq_true rfl) rfl (c_X7_meets _ _ e2) rfl ?_
      change EvL Ln xs 542 [some (.ref 72), some (.ref 0), some (.ref 59), some (.int x)] [.int r, .int r] I2 A2 L2
      refine l_icmp_eq (tgt := 868) dL_law_542 (by decide) ?_
      exact hend I2 A2 L2 hI2 h6
    by_cases q11 : z = 11
    · subst q11
      refine l_swIn (off := 514) (tgt := 547) dL_law_33 (by decide) (by decide) (by rfl) (by decide) ?_
      obtain ⟨r, I1, A1, L1, I2, A2, L2, e1, e2, hI2⟩ := h_part (xs (x + 1).toNatClampNeg) I A L hI
      refine l_aload_n (pc' := 548) (i := 1) rfl rfl dL_law_547 rfl ?_
      refine l_aload_n (pc' := 549) (i := 0) rfl rfl dL_law_548 rfl ?_
      refine l_iload_n (pc' := 550) (i := 3) rfl rfl dL_law_549 rfl ?_
      refine l_iconst (v := 1) (pc' := 551) (by decide) dL_law_550 rfl ?_
      refine l_iadd (pc' := 552) dL_law_551 rfl ?_
      refine l_sld (pc' := 553) (lw_in (j := 1) hL hx h6 (by omega)) dL_law_552 rfl ?_
      refine l_call (pc' := 556) dL_law_553 rfl mw_641 mv_X6_part rfl (Nat.le_of_ble_eq_true rfl) (Nat.le_of_ble_eq_true rfl) rfl (Nat.le_of_ble_eq_true rfl) (Nat.le_of_ble_eq_true rfl) rfl (c_X6_part _ e1) rfl ?_
      change EvL Ln xs 556 [some (.ref 72), some (.ref 0), some (.ref 59), some (.int x)] [.long r] I1 A1 L1
      refine l_aload_n (pc' := 557) (i := 2) rfl rfl dL_law_556 rfl ?_
      refine l_aload_n (pc' := 558) (i := 0) rfl rfl dL_law_557 rfl ?_
      refine l_iload_n (pc' := 559) (i := 3) rfl rfl dL_law_558 rfl ?_
      refine l_iconst (v := 1) (pc' := 560) (by decide) dL_law_559 rfl ?_
      refine l_iadd (pc' := 561) dL_law_560 rfl ?_
      refine l_sld (pc' := 562) (lw_in (j := 1) hL hx h6 (by omega)) dL_law_561 rfl ?_
      refine l_call (pc' := 565) dL_law_562 rfl mw_1019 mv_X7_part rfl (Nat.le_of_ble_eq_true rfl) (Nat.le_of_ble_eq_true rfl) rfl (Nat.le_of_ble_eq_true rfl) (Nat.le_of_ble_eq_true rfl) rfl (c_X7_part _ e2) rfl ?_
      change EvL Ln xs 565 [some (.ref 72), some (.ref 0), some (.ref 59), some (.int x)] [.long r, .long r] I2 A2 L2
      refine l_lcmp (pc' := 566) dL_law_565 rfl ?_
      rw [show lg_cmp r r = 0 from by simp [lg_cmp]]
      refine l_if_eq (tgt := 868) dL_law_566 (by decide) ?_
      exact hend I2 A2 L2 hI2 h6
    by_cases q12 : z = 12
    · subst q12
      refine l_swIn (off := 538) (tgt := 571) dL_law_33 (by decide) (by decide) (by rfl) (by decide) ?_
      obtain ⟨r, I1, A1, L1, I2, A2, L2, e1, e2, hI2⟩ := h_edge (xs (x + 1).toNatClampNeg) (xs (x + 2).toNatClampNeg) (xs (x + 3).toNatClampNeg) I A L hI
      refine l_aload_n (pc' := 572) (i := 1) rfl rfl dL_law_571 rfl ?_
      refine l_aload_n (pc' := 573) (i := 0) rfl rfl dL_law_572 rfl ?_
      refine l_iload_n (pc' := 574) (i := 3) rfl rfl dL_law_573 rfl ?_
      refine l_iconst (v := 1) (pc' := 575) (by decide) dL_law_574 rfl ?_
      refine l_iadd (pc' := 576) dL_law_575 rfl ?_
      refine l_sld (pc' := 577) (lw_in (j := 1) hL hx h6 (by omega)) dL_law_576 rfl ?_
      refine l_aload_n (pc' := 578) (i := 0) rfl rfl dL_law_577 rfl ?_
      refine l_iload_n (pc' := 579) (i := 3) rfl rfl dL_law_578 rfl ?_
      refine l_iconst (v := 2) (pc' := 580) (by decide) dL_law_579 rfl ?_
      refine l_iadd (pc' := 581) dL_law_580 rfl ?_
      refine l_sld (pc' := 582) (lw_in (j := 2) hL hx h6 (by omega)) dL_law_581 rfl ?_
      refine l_aload_n (pc' := 583) (i := 0) rfl rfl dL_law_582 rfl ?_
      refine l_iload_n (pc' := 584) (i := 3) rfl rfl dL_law_583 rfl ?_
      refine l_iconst (v := 3) (pc' := 585) (by decide) dL_law_584 rfl ?_
      refine l_iadd (pc' := 586) dL_law_585 rfl ?_
      refine l_sld (pc' := 587) (lw_in (j := 3) hL hx h6 (by omega)) dL_law_586 rfl ?_
      refine l_call (pc' := 590) dL_law_587 rfl mw_646 mv_X6_edge rfl (Nat.le_of_ble_eq_true rfl) (Nat.le_of_ble_eq_true rfl) rfl (Nat.le_of_ble_eq_true rfl) (Nat.le_of_ble_eq_true rfl) rfl (c_X6_edge _ _ _ e1) rfl ?_
      change EvL Ln xs 590 [some (.ref 72), some (.ref 0), some (.ref 59), some (.int x)] [.int r] I1 A1 L1
      refine l_aload_n (pc' := 591) (i := 2) rfl rfl dL_law_590 rfl ?_
      refine l_aload_n (pc' := 592) (i := 0) rfl rfl dL_law_591 rfl ?_
      refine l_iload_n (pc' := 593) (i := 3) rfl rfl dL_law_592 rfl ?_
      refine l_iconst (v := 1) (pc' := 594) (by decide) dL_law_593 rfl ?_
      refine l_iadd (pc' := 595) dL_law_594 rfl ?_
      refine l_sld (pc' := 596) (lw_in (j := 1) hL hx h6 (by omega)) dL_law_595 rfl ?_
      refine l_aload_n (pc' := 597) (i := 0) rfl rfl dL_law_596 rfl ?_
      refine l_iload_n (pc' := 598) (i := 3) rfl rfl dL_law_597 rfl ?_
      refine l_iconst (v := 2) (pc' := 599) (by decide) dL_law_598 rfl ?_
      refine l_iadd (pc' := 600) dL_law_599 rfl ?_
      refine l_sld (pc' := 601) (lw_in (j := 2) hL hx h6 (by omega)) dL_law_600 rfl ?_
      refine l_aload_n (pc' := 602) (i := 0) rfl rfl dL_law_601 rfl ?_
      refine l_iload_n (pc' := 603) (i := 3) rfl rfl dL_law_602 rfl ?_
      refine l_iconst (v := 3) (pc' := 604) (by decide) dL_law_603 rfl ?_
      refine l_iadd (pc' := 605) dL_law_604 rfl ?_
      refine l_sld (pc' := 606) (lw_in (j := 3) hL hx h6 (by omega)) dL_law_605 rfl ?_
      refine l_call (pc' := 609) dL_law_606 rfl mw_1024 mv_X7_edge rfl (Nat.le_of_ble_eq_true rfl) (Nat.le_of_ble_eq_true rfl) rfl (Nat.le_of_ble_eq_true rfl) (Nat.le_of_ble_eq_true rfl) rfl (c_X7_edge _ _ _ e2) rfl ?_
      change EvL Ln xs 609 [some (.ref 72), some (.ref 0), some (.ref 59), some (.int x)] [.int r, .int r] I2 A2 L2
      refine l_icmp_eq (tgt := 868) dL_law_609 (by decide) ?_
      exact hend I2 A2 L2 hI2 h6
    by_cases q13 : z = 13
    · subst q13
      refine l_swIn (off := 581) (tgt := 614) dL_law_33 (by decide) (by decide) (by rfl) (by decide) ?_
      obtain ⟨r, I1, A1, L1, I2, A2, L2, e1, e2, hI2⟩ := h_reach (xs (x + 1).toNatClampNeg) (xs (x + 2).toNatClampNeg) (xs (x + 3).toNatClampNeg) I A L hI
      refine l_aload_n (pc' := 615) (i := 1) rfl rfl dL_law_614 rfl ?_
      refine l_aload_n (pc' := 616) (i := 0) rfl rfl dL_law_615 rfl ?_
      refine l_iload_n (pc' := 617) (i := 3) rfl rfl dL_law_616 rfl ?_
      refine l_iconst (v := 1) (pc' := 618) (by decide) dL_law_617 rfl ?_
      refine l_iadd (pc' := 619) dL_law_618 rfl ?_
      refine l_sld (pc' := 620) (lw_in (j := 1) hL hx h6 (by omega)) dL_law_619 rfl ?_
      refine l_aload_n (pc' := 621) (i := 0) rfl rfl dL_law_620 rfl ?_
      refine l_iload_n (pc' := 622) (i := 3) rfl rfl dL_law_621 rfl ?_
      refine l_iconst (v := 2) (pc' := 623) (by decide) dL_law_622 rfl ?_
      refine l_iadd (pc' := 624) dL_law_623 rfl ?_
      refine l_sld (pc' := 625) (lw_in (j := 2) hL hx h6 (by omega)) dL_law_624 rfl ?_
      refine l_aload_n (pc' := 626) (i := 0) rfl rfl dL_law_625 rfl ?_
      refine l_iload_n (pc' := 627) (i := 3) rfl rfl dL_law_626 rfl ?_
      refine l_iconst (v := 3) (pc' := 628) (by decide) dL_law_627 rfl ?_
      refine l_iadd (pc' := 629) dL_law_628 rfl ?_
      refine l_sld (pc' := 630) (lw_in (j := 3) hL hx h6 (by omega)) dL_law_629 rfl ?_
      refine l_call (pc' := 633) dL_law_630 rfl mw_659 mv_X6_reach rfl (Nat.le_of_ble_eq_true rfl) (Nat.le_of_ble_eq_true rfl) rfl (Nat.le_of_ble_eq_true rfl) (Nat.le_of_ble_eq_true rfl) rfl (c_X6_reach _ _ _ e1) rfl ?_
      change EvL Ln xs 633 [some (.ref 72), some (.ref 0), some (.ref 59), some (.int x)] [.int r] I1 A1 L1
      refine l_aload_n (pc' := 634) (i := 2) rfl rfl dL_law_633 rfl ?_
      refine l_aload_n (pc' := 635) (i := 0) rfl rfl dL_law_634 rfl ?_
      refine l_iload_n (pc' := 636) (i := 3) rfl rfl dL_law_635 rfl ?_
      refine l_iconst (v := 1) (pc' := 637) (by decide) dL_law_636 rfl ?_
      refine l_iadd (pc' := 638) dL_law_637 rfl ?_
      refine l_sld (pc' := 639) (lw_in (j := 1) hL hx h6 (by omega)) dL_law_638 rfl ?_
      refine l_aload_n (pc' := 640) (i := 0) rfl rfl dL_law_639 rfl ?_
      refine l_iload_n (pc' := 641) (i := 3) rfl rfl dL_law_640 rfl ?_
      refine l_iconst (v := 2) (pc' := 642) (by decide) dL_law_641 rfl ?_
      refine l_iadd (pc' := 643) dL_law_642 rfl ?_
      refine l_sld (pc' := 644) (lw_in (j := 2) hL hx h6 (by omega)) dL_law_643 rfl ?_
      refine l_aload_n (pc' := 645) (i := 0) rfl rfl dL_law_644 rfl ?_
      refine l_iload_n (pc' := 646) (i := 3) rfl rfl dL_law_645 rfl ?_
      refine l_iconst (v := 3) (pc' := 647) (by decide) dL_law_646 rfl ?_
      refine l_iadd (pc' := 648) dL_law_647 rfl ?_
      refine l_sld (pc' := 649) (lw_in (j := 3) hL hx h6 (by omega)) dL_law_648 rfl ?_
      refine l_call (pc' := 652) dL_law_649 rfl mw_1028 mv_X7_reach rfl (Nat.le_of_ble_eq_true rfl) (Nat.le_of_ble_eq_true rfl) rfl (Nat.le_of_ble_eq_true rfl) (Nat.le_of_ble_eq_true rfl) rfl (c_X7_reach _ _ _ e2) rfl ?_
      change EvL Ln xs 652 [some (.ref 72), some (.ref 0), some (.ref 59), some (.int x)] [.int r, .int r] I2 A2 L2
      refine l_icmp_eq (tgt := 868) dL_law_652 (by decide) ?_
      exact hend I2 A2 L2 hI2 h6
    by_cases q14 : z = 14
    · subst q14
      refine l_swIn (off := 624) (tgt := 657) dL_law_33 (by decide) (by decide) (by rfl) (by decide) ?_
      obtain ⟨r, I1, A1, L1, I2, A2, L2, e1, e2, hI2⟩ := h_stays (xs (x + 1).toNatClampNeg) I A L hI
      refine l_aload_n (pc' := 658) (i := 1) rfl rfl dL_law_657 rfl ?_
      refine l_aload_n (pc' := 659) (i := 0) rfl rfl dL_law_658 rfl ?_
      refine l_iload_n (pc' := 660) (i := 3) rfl rfl dL_law_659 rfl ?_
      refine l_iconst (v := 1) (pc' := 661) (by decide) dL_law_660 rfl ?_
      refine l_iadd (pc' := 662) dL_law_661 rfl ?_
      refine l_sld (pc' := 663) (lw_in (j := 1) hL hx h6 (by omega)) dL_law_662 rfl ?_
      refine l_call (pc' := 666) dL_law_663 rfl mw_672 mv_X6_stays rfl (Nat.le_of_ble_eq_true rfl) (Nat.le_of_ble_eq_true rfl) rfl (Nat.le_of_ble_eq_true rfl) (Nat.le_of_ble_eq_true rfl) rfl (c_X6_stays _ e1) rfl ?_
      change EvL Ln xs 666 [some (.ref 72), some (.ref 0), some (.ref 59), some (.int x)] [.int r] I1 A1 L1
      refine l_aload_n (pc' := 667) (i := 2) rfl rfl dL_law_666 rfl ?_
      refine l_aload_n (pc' := 668) (i := 0) rfl rfl dL_law_667 rfl ?_
      refine l_iload_n (pc' := 669) (i := 3) rfl rfl dL_law_668 rfl ?_
      refine l_iconst (v := 1) (pc' := 670) (by decide) dL_law_669 rfl ?_
      refine l_iadd (pc' := 671) dL_law_670 rfl ?_
      refine l_sld (pc' := 672) (lw_in (j := 1) hL hx h6 (by omega)) dL_law_671 rfl ?_
      refine l_call (pc' := 675) dL_law_672 rfl mw_1040 mv_X7_stays rfl (Nat.le_of_ble_eq_true rfl) (Nat.le_of_ble_eq_true rfl) rfl (Nat.le_of_ble_eq_true rfl) (Nat.le_of_ble_eq_true rfl) rfl (c_X7_stays _ e2) rfl ?_
      change EvL Ln xs 675 [some (.ref 72), some (.ref 0), some (.ref 59), some (.int x)] [.int r, .int r] I2 A2 L2
      refine l_icmp_eq (tgt := 868) dL_law_675 (by decide) ?_
      exact hend I2 A2 L2 hI2 h6
    by_cases q15 : z = 15
    · subst q15
      refine l_swIn (off := 647) (tgt := 680) dL_law_33 (by decide) (by decide) (by rfl) (by decide) ?_
      obtain ⟨r, I1, A1, L1, I2, A2, L2, e1, e2, hI2⟩ := h_symmetry  I A L hI
      refine l_aload_n (pc' := 681) (i := 1) rfl rfl dL_law_680 rfl ?_
      refine l_call (pc' := 684) dL_law_681 rfl mw_681 mv_X6_symmetry rfl (Nat.le_of_ble_eq_true rfl) (Nat.le_of_ble_eq_true rfl) rfl (Nat.le_of_ble_eq_true rfl) (Nat.le_of_ble_eq_true rfl) rfl (c_X6_symmetry e1) rfl ?_
      change EvL Ln xs 684 [some (.ref 72), some (.ref 0), some (.ref 59), some (.int x)] [.int r] I1 A1 L1
      refine l_aload_n (pc' := 685) (i := 2) rfl rfl dL_law_684 rfl ?_
      refine l_call (pc' := 688) dL_law_685 rfl mw_1048 mv_X7_symmetry rfl (Nat.le_of_ble_eq_true rfl) (Nat.le_of_ble_eq_true rfl) rfl (Nat.le_of_ble_eq_true rfl) (Nat.le_of_ble_eq_true rfl) rfl (c_X7_symmetry e2) rfl ?_
      change EvL Ln xs 688 [some (.ref 72), some (.ref 0), some (.ref 59), some (.int x)] [.int r, .int r] I2 A2 L2
      refine l_icmp_eq (tgt := 868) dL_law_688 (by decide) ?_
      exact hend I2 A2 L2 hI2 h6
    by_cases q16 : z = 16
    · subst q16
      refine l_swIn (off := 660) (tgt := 693) dL_law_33 (by decide) (by decide) (by rfl) (by decide) ?_
      obtain ⟨r, I1, A1, L1, I2, A2, L2, e1, e2, hI2⟩ := h_hides (xs (x + 1).toNatClampNeg) (xs (x + 2).toNatClampNeg) (xs (x + 3).toNatClampNeg) (xs (x + 4).toNatClampNeg) I A L hI
      refine l_aload_n (pc' := 694) (i := 1) rfl rfl dL_law_693 rfl ?_
      refine l_aload_n (pc' := 695) (i := 0) rfl rfl dL_law_694 rfl ?_
      refine l_iload_n (pc' := 696) (i := 3) rfl rfl dL_law_695 rfl ?_
      refine l_iconst (v := 1) (pc' := 697) (by decide) dL_law_696 rfl ?_
      refine l_iadd (pc' := 698) dL_law_697 rfl ?_
      refine l_sld (pc' := 699) (lw_in (j := 1) hL hx h6 (by omega)) dL_law_698 rfl ?_
      refine l_aload_n (pc' := 700) (i := 0) rfl rfl dL_law_699 rfl ?_
      refine l_iload_n (pc' := 701) (i := 3) rfl rfl dL_law_700 rfl ?_
      refine l_iconst (v := 2) (pc' := 702) (by decide) dL_law_701 rfl ?_
      refine l_iadd (pc' := 703) dL_law_702 rfl ?_
      refine l_sld (pc' := 704) (lw_in (j := 2) hL hx h6 (by omega)) dL_law_703 rfl ?_
      refine l_aload_n (pc' := 705) (i := 0) rfl rfl dL_law_704 rfl ?_
      refine l_iload_n (pc' := 706) (i := 3) rfl rfl dL_law_705 rfl ?_
      refine l_iconst (v := 3) (pc' := 707) (by decide) dL_law_706 rfl ?_
      refine l_iadd (pc' := 708) dL_law_707 rfl ?_
      refine l_sld (pc' := 709) (lw_in (j := 3) hL hx h6 (by omega)) dL_law_708 rfl ?_
      refine l_aload_n (pc' := 710) (i := 0) rfl rfl dL_law_709 rfl ?_
      refine l_iload_n (pc' := 711) (i := 3) rfl rfl dL_law_710 rfl ?_
      refine l_iconst (v := 4) (pc' := 712) (by decide) dL_law_711 rfl ?_
      refine l_iadd (pc' := 713) dL_law_712 rfl ?_
      refine l_sld (pc' := 714) (lw_in (j := 4) hL hx h6 (by omega)) dL_law_713 rfl ?_
      refine l_call (pc' := 717) dL_law_714 rfl mw_685 mv_X6_hides rfl (Nat.le_of_ble_eq_true rfl) (Nat.le_of_ble_eq_true rfl) rfl (Nat.le_of_ble_eq_true rfl) (Nat.le_of_ble_eq_true rfl) rfl (c_X6_hides _ _ _ _ e1) rfl ?_
      change EvL Ln xs 717 [some (.ref 72), some (.ref 0), some (.ref 59), some (.int x)] [.int r] I1 A1 L1
      refine l_aload_n (pc' := 718) (i := 2) rfl rfl dL_law_717 rfl ?_
      refine l_aload_n (pc' := 719) (i := 0) rfl rfl dL_law_718 rfl ?_
      refine l_iload_n (pc' := 720) (i := 3) rfl rfl dL_law_719 rfl ?_
      refine l_iconst (v := 1) (pc' := 721) (by decide) dL_law_720 rfl ?_
      refine l_iadd (pc' := 722) dL_law_721 rfl ?_
      refine l_sld (pc' := 723) (lw_in (j := 1) hL hx h6 (by omega)) dL_law_722 rfl ?_
      refine l_aload_n (pc' := 724) (i := 0) rfl rfl dL_law_723 rfl ?_
      refine l_iload_n (pc' := 725) (i := 3) rfl rfl dL_law_724 rfl ?_
      refine l_iconst (v := 2) (pc' := 726) (by decide) dL_law_725 rfl ?_
      refine l_iadd (pc' := 727) dL_law_726 rfl ?_
      refine l_sld (pc' := 728) (lw_in (j := 2) hL hx h6 (by omega)) dL_law_727 rfl ?_
      refine l_aload_n (pc' := 729) (i := 0) rfl rfl dL_law_728 rfl ?_
      refine l_iload_n (pc' := 730) (i := 3) rfl rfl dL_law_729 rfl ?_
      refine l_iconst (v := 3) (pc' := 731) (by decide) dL_law_730 rfl ?_
      refine l_iadd (pc' := 732) dL_law_731 rfl ?_
      refine l_sld (pc' := 733) (lw_in (j := 3) hL hx h6 (by omega)) dL_law_732 rfl ?_
      refine l_aload_n (pc' := 734) (i := 0) rfl rfl dL_law_733 rfl ?_
      refine l_iload_n (pc' := 735) (i := 3) rfl rfl dL_law_734 rfl ?_
      refine l_iconst (v := 4) (pc' := 736) (by decide) dL_law_735 rfl ?_
      refine l_iadd (pc' := 737) dL_law_736 rfl ?_
      refine l_sld (pc' := 738) (lw_in (j := 4) hL hx h6 (by omega)) dL_law_737 rfl ?_
      refine l_call (pc' := 741) dL_law_738 rfl mw_1052 mv_X7_hides rfl (Nat.le_of_ble_eq_true rfl) (Nat.le_of_ble_eq_true rfl) rfl (Nat.le_of_ble_eq_true rfl) (Nat.le_of_ble_eq_true rfl) rfl (c_X7_hides _ _ _ _ e2) rfl ?_
      change EvL Ln xs 741 [some (.ref 72), some (.ref 0), some (.ref 59), some (.int x)] [.int r, .int r] I2 A2 L2
      refine l_icmp_eq (tgt := 868) dL_law_741 (by decide) ?_
      exact hend I2 A2 L2 hI2 h6
    by_cases q17 : z = 17
    · subst q17
      refine l_swIn (off := 713) (tgt := 746) dL_law_33 (by decide) (by decide) (by rfl) (by decide) ?_
      obtain ⟨r, I1, A1, L1, I2, A2, L2, e1, e2, hI2⟩ := h_spare (xs (x + 1).toNatClampNeg) I A L hI
      refine l_aload_n (pc' := 747) (i := 1) rfl rfl dL_law_746 rfl ?_
      refine l_aload_n (pc' := 748) (i := 0) rfl rfl dL_law_747 rfl ?_
      refine l_iload_n (pc' := 749) (i := 3) rfl rfl dL_law_748 rfl ?_
      refine l_iconst (v := 1) (pc' := 750) (by decide) dL_law_749 rfl ?_
      refine l_iadd (pc' := 751) dL_law_750 rfl ?_
      refine l_sld (pc' := 752) (lw_in (j := 1) hL hx h6 (by omega)) dL_law_751 rfl ?_
      refine l_call (pc' := 755) dL_law_752 rfl mw_696 mv_X6_spare rfl (Nat.le_of_ble_eq_true rfl) (Nat.le_of_ble_eq_true rfl) rfl (Nat.le_of_ble_eq_true rfl) (Nat.le_of_ble_eq_true rfl) rfl (c_X6_spare _ e1) rfl ?_
      change EvL Ln xs 755 [some (.ref 72), some (.ref 0), some (.ref 59), some (.int x)] [.int r] I1 A1 L1
      refine l_aload_n (pc' := 756) (i := 2) rfl rfl dL_law_755 rfl ?_
      refine l_aload_n (pc' := 757) (i := 0) rfl rfl dL_law_756 rfl ?_
      refine l_iload_n (pc' := 758) (i := 3) rfl rfl dL_law_757 rfl ?_
      refine l_iconst (v := 1) (pc' := 759) (by decide) dL_law_758 rfl ?_
      refine l_iadd (pc' := 760) dL_law_759 rfl ?_
      refine l_sld (pc' := 761) (lw_in (j := 1) hL hx h6 (by omega)) dL_law_760 rfl ?_
      refine l_call (pc' := 764) dL_law_761 rfl mw_1056 mv_X7_spare rfl (Nat.le_of_ble_eq_true rfl) (Nat.le_of_ble_eq_true rfl) rfl (Nat.le_of_ble_eq_true rfl) (Nat.le_of_ble_eq_true rfl) rfl (c_X7_spare _ e2) rfl ?_
      change EvL Ln xs 764 [some (.ref 72), some (.ref 0), some (.ref 59), some (.int x)] [.int r, .int r] I2 A2 L2
      refine l_icmp_eq (tgt := 868) dL_law_764 (by decide) ?_
      exact hend I2 A2 L2 hI2 h6
    by_cases q18 : z = 18
    · subst q18
      refine l_swIn (off := 736) (tgt := 769) dL_law_33 (by decide) (by decide) (by rfl) (by decide) ?_
      obtain ⟨r, I1, A1, L1, I2, A2, L2, e1, e2, hI2⟩ := h_type (xs (x + 1).toNatClampNeg) I A L hI
      refine l_aload_n (pc' := 770) (i := 1) rfl rfl dL_law_769 rfl ?_
      refine l_aload_n (pc' := 771) (i := 0) rfl rfl dL_law_770 rfl ?_
      refine l_iload_n (pc' := 772) (i := 3) rfl rfl dL_law_771 rfl ?_
      refine l_iconst (v := 1) (pc' := 773) (by decide) dL_law_772 rfl ?_
      refine l_iadd (pc' := 774) dL_law_773 rfl ?_
      refine l_sld (pc' := 775) (lw_in (j := 1) hL hx h6 (by omega)) dL_law_774 rfl ?_
      refine l_call (pc' := 778) dL_law_775 rfl mw_708 mv_X6_type rfl (Nat.le_of_ble_eq_true rfl) (Nat.le_of_ble_eq_true rfl) rfl (Nat.le_of_ble_eq_true rfl) (Nat.le_of_ble_eq_true rfl) rfl (c_X6_type _ e1) rfl ?_
      change EvL Ln xs 778 [some (.ref 72), some (.ref 0), some (.ref 59), some (.int x)] [.int r] I1 A1 L1
      refine l_aload_n (pc' := 779) (i := 2) rfl rfl dL_law_778 rfl ?_
      refine l_aload_n (pc' := 780) (i := 0) rfl rfl dL_law_779 rfl ?_
      refine l_iload_n (pc' := 781) (i := 3) rfl rfl dL_law_780 rfl ?_
      refine l_iconst (v := 1) (pc' := 782) (by decide) dL_law_781 rfl ?_
      refine l_iadd (pc' := 783) dL_law_782 rfl ?_
      refine l_sld (pc' := 784) (lw_in (j := 1) hL hx h6 (by omega)) dL_law_783 rfl ?_
      refine l_call (pc' := 787) dL_law_784 rfl mw_1064 mv_X7_type rfl (Nat.le_of_ble_eq_true rfl) (Nat.le_of_ble_eq_true rfl) rfl (Nat.le_of_ble_eq_true rfl) (Nat.le_of_ble_eq_true rfl) rfl (c_X7_type _ e2) rfl ?_
      change EvL Ln xs 787 [some (.ref 72), some (.ref 0), some (.ref 59), some (.int x)] [.int r, .int r] I2 A2 L2
      refine l_icmp_eq (tgt := 868) dL_law_787 (by decide) ?_
      exact hend I2 A2 L2 hI2 h6
    by_cases q19 : z = 19
    · subst q19
      refine l_swIn (off := 759) (tgt := 792) dL_law_33 (by decide) (by decide) (by rfl) (by decide) ?_
      obtain ⟨r, I1, A1, L1, I2, A2, L2, e1, e2, hI2⟩ := h_clear  I A L hI
      refine l_aload_n (pc' := 793) (i := 1) rfl rfl dL_law_792 rfl ?_
      refine l_call (pc' := 796) dL_law_793 rfl mw_712 mv_X6_clear rfl (Nat.le_of_ble_eq_true rfl) (Nat.le_of_ble_eq_true rfl) rfl (Nat.le_of_ble_eq_true rfl) (Nat.le_of_ble_eq_true rfl) rfl (c_X6_clear e1) rfl ?_
      change EvL Ln xs 796 [some (.ref 72), some (.ref 0), some (.ref 59), some (.int x)] [.int r] I1 A1 L1
      refine l_aload_n (pc' := 797) (i := 2) rfl rfl dL_law_796 rfl ?_
      refine l_call (pc' := 800) dL_law_797 rfl mw_1068 mv_X7_clear rfl (Nat.le_of_ble_eq_true rfl) (Nat.le_of_ble_eq_true rfl) rfl (Nat.le_of_ble_eq_true rfl) (Nat.le_of_ble_eq_true rfl) rfl (c_X7_clear e2) rfl ?_
      change EvL Ln xs 800 [some (.ref 72), some (.ref 0), some (.ref 59), some (.int x)] [.int r, .int r] I2 A2 L2
      refine l_icmp_eq (tgt := 868) dL_law_800 (by decide) ?_
      exact hend I2 A2 L2 hI2 h6
    by_cases q20 : z = 20
    · subst q20
      refine l_swIn (off := 772) (tgt := 805) dL_law_33 (by decide) (by decide) (by rfl) (by decide) ?_
      obtain ⟨r, I1, A1, L1, I2, A2, L2, e1, e2, hI2⟩ := h_reads  I A L hI
      refine l_aload_n (pc' := 806) (i := 1) rfl rfl dL_law_805 rfl ?_
      refine l_call (pc' := 809) dL_law_806 rfl mw_716 mv_X6_reads rfl (Nat.le_of_ble_eq_true rfl) (Nat.le_of_ble_eq_true rfl) rfl (Nat.le_of_ble_eq_true rfl) (Nat.le_of_ble_eq_true rfl) rfl (c_X6_reads e1) rfl ?_
      change EvL Ln xs 809 [some (.ref 72), some (.ref 0), some (.ref 59), some (.int x)] [.int r] I1 A1 L1
      refine l_aload_n (pc' := 810) (i := 2) rfl rfl dL_law_809 rfl ?_
      refine l_call (pc' := 813) dL_law_810 rfl mw_1072 mv_X7_reads rfl (Nat.le_of_ble_eq_true rfl) (Nat.le_of_ble_eq_true rfl) rfl (Nat.le_of_ble_eq_true rfl) (Nat.le_of_ble_eq_true rfl) rfl (c_X7_reads e2) rfl ?_
      change EvL Ln xs 813 [some (.ref 72), some (.ref 0), some (.ref 59), some (.int x)] [.int r, .int r] I2 A2 L2
      refine l_icmp_eq (tgt := 868) dL_law_813 (by decide) ?_
      exact hend I2 A2 L2 hI2 h6
    by_cases q21 : z = 21
    · subst q21
      refine l_swIn (off := 785) (tgt := 818) dL_law_33 (by decide) (by decide) (by rfl) (by decide) ?_
      obtain ⟨r, I1, A1, L1, I2, A2, L2, e1, e2, hI2⟩ := h_back  I A L hI
      refine l_aload_n (pc' := 819) (i := 1) rfl rfl dL_law_818 rfl ?_
      refine l_call (pc' := 822) dL_law_819 rfl mw_761 mv_X6_back rfl (Nat.le_of_ble_eq_true rfl) (Nat.le_of_ble_eq_true rfl) rfl (Nat.le_of_ble_eq_true rfl) (Nat.le_of_ble_eq_true rfl) rfl (c_X6_back e1) rfl ?_
      change EvL Ln xs 822 [some (.ref 72), some (.ref 0), some (.ref 59), some (.int x)] [.int r] I1 A1 L1
      refine l_aload_n (pc' := 823) (i := 2) rfl rfl dL_law_822 rfl ?_
      refine l_call (pc' := 826) dL_law_823 rfl mw_1104 mv_X7_back rfl (Nat.le_of_ble_eq_true rfl) (Nat.le_of_ble_eq_true rfl) rfl (Nat.le_of_ble_eq_true rfl) (Nat.le_of_ble_eq_true rfl) rfl (c_X7_back e2) rfl ?_
      change EvL Ln xs 826 [some (.ref 72), some (.ref 0), some (.ref 59), some (.int x)] [.int r, .int r] I2 A2 L2
      refine l_icmp_eq (tgt := 868) dL_law_826 (by decide) ?_
      exact hend I2 A2 L2 hI2 h6
    by_cases q22 : z = 22
    · subst q22
      refine l_swIn (off := 798) (tgt := 831) dL_law_33 (by decide) (by decide) (by rfl) (by decide) ?_
      obtain ⟨r, I1, A1, L1, I2, A2, L2, e1, e2, hI2⟩ := h_told (xs (x + 1).toNatClampNeg) I A L hI
      refine l_aload_n (pc' := 832) (i := 1) rfl rfl dL_law_831 rfl ?_
      refine l_aload_n (pc' := 833) (i := 0) rfl rfl dL_law_832 rfl ?_
      refine l_iload_n (pc' := 834) (i := 3) rfl rfl dL_law_833 rfl ?_
      refine l_iconst (v := 1) (pc' := 835) (by decide) dL_law_834 rfl ?_
      refine l_iadd (pc' := 836) dL_law_835 rfl ?_
      refine l_sld (pc' := 837) (lw_in (j := 1) hL hx h6 (by omega)) dL_law_836 rfl ?_
      refine l_call (pc' := 840) dL_law_837 rfl mw_769 mv_X6_told rfl (Nat.le_of_ble_eq_true rfl) (Nat.le_of_ble_eq_true rfl) rfl (Nat.le_of_ble_eq_true rfl) (Nat.le_of_ble_eq_true rfl) rfl (c_X6_told _ e1) rfl ?_
      change EvL Ln xs 840 [some (.ref 72), some (.ref 0), some (.ref 59), some (.int x)] [.int r] I1 A1 L1
      refine l_aload_n (pc' := 841) (i := 2) rfl rfl dL_law_840 rfl ?_
      refine l_aload_n (pc' := 842) (i := 0) rfl rfl dL_law_841 rfl ?_
      refine l_iload_n (pc' := 843) (i := 3) rfl rfl dL_law_842 rfl ?_
      refine l_iconst (v := 1) (pc' := 844) (by decide) dL_law_843 rfl ?_
      refine l_iadd (pc' := 845) dL_law_844 rfl ?_
      refine l_sld (pc' := 846) (lw_in (j := 1) hL hx h6 (by omega)) dL_law_845 rfl ?_
      refine l_call (pc' := 849) dL_law_846 rfl mw_1108 mv_X7_told rfl (Nat.le_of_ble_eq_true rfl) (Nat.le_of_ble_eq_true rfl) rfl (Nat.le_of_ble_eq_true rfl) (Nat.le_of_ble_eq_true rfl) rfl (c_X7_told _ e2) rfl ?_
      change EvL Ln xs 849 [some (.ref 72), some (.ref 0), some (.ref 59), some (.int x)] [.int r, .int r] I2 A2 L2
      refine l_icmp_eq (tgt := 868) dL_law_849 (by decide) ?_
      exact hend I2 A2 L2 hI2 h6
    by_cases q23 : z = 23
    · subst q23
      refine l_swIn (off := 821) (tgt := 854) dL_law_33 (by decide) (by decide) (by rfl) (by decide) ?_
      obtain ⟨r, I1, A1, L1, I2, A2, L2, e1, e2, hI2⟩ := h_digest  I A L hI
      refine l_aload_n (pc' := 855) (i := 1) rfl rfl dL_law_854 rfl ?_
      refine l_call (pc' := 858) dL_law_855 rfl mw_777 mv_X6_digest rfl (Nat.le_of_ble_eq_true rfl) (Nat.le_of_ble_eq_true rfl) rfl (Nat.le_of_ble_eq_true rfl) (Nat.le_of_ble_eq_true rfl) rfl (c_X6_digest e1) rfl ?_
      change EvL Ln xs 858 [some (.ref 72), some (.ref 0), some (.ref 59), some (.int x)] [.long r] I1 A1 L1
      refine l_aload_n (pc' := 859) (i := 2) rfl rfl dL_law_858 rfl ?_
      refine l_call (pc' := 862) dL_law_859 rfl mw_1116 mv_X7_digest rfl (Nat.le_of_ble_eq_true rfl) (Nat.le_of_ble_eq_true rfl) rfl (Nat.le_of_ble_eq_true rfl) (Nat.le_of_ble_eq_true rfl) rfl (c_X7_digest e2) rfl ?_
      change EvL Ln xs 862 [some (.ref 72), some (.ref 0), some (.ref 59), some (.int x)] [.long r, .long r] I2 A2 L2
      refine l_lcmp (pc' := 863) dL_law_862 rfl ?_
      rw [show lg_cmp r r = 0 from by simp [lg_cmp]]
      refine l_if_eq (tgt := 868) dL_law_863 (by decide) ?_
      exact hend I2 A2 L2 hI2 h6
    refine l_swOut (tgt := 868) dL_law_33 (g_swo23 q0 q1 q2 q3 q4 q5 q6 q7 q8 q9 q10 q11 q12 q13 q14 q15 q16 q17 q18 q19 q20 q21 q22 q23) (by decide) ?_
    exact hend I A L hI h6
