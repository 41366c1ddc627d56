theorem gle_0 {u : List (Option Value)} : gLe [] u := by simp [gLe]
theorem gle_n {t u : List (Option Value)} {x : Option Value} (h : gLe t u) : gLe (none :: t) (x :: u) := by simpa [gLe] using h
theorem gle_s {t u : List (Option Value)} {v : Value} (h : gLe t u) : gLe (some v :: t) (some v :: u) := by simpa [gLe] using h
theorem g_re1 {α : Type} {x t : α} (h : some x = some t) : t = x := (Option.some.inj h).symm
theorem g_re3 {α β γ : Type} {x t : α} {y u : β} {z v : γ} (h : some (x, y, z) = some (t, u, v)) : t = x ∧ u = y ∧ v = z := by
  have := Option.some.inj h
  injection this with h1 h2
  injection h2 with h2 h3
  exact ⟨h1.symm, h2.symm, h3.symm⟩
theorem g_re4 {α β γ δ : Type} {x t : α} {y u : β} {z v : γ} {w q : δ} (h : some (x, y, z, w) = some (t, u, v, q)) : t = x ∧ u = y ∧ v = z ∧ q = w := by
  have := Option.some.inj h
  injection this with h1 h2
  injection h2 with h2 h3
  injection h3 with h3 h4
  exact ⟨h1.symm, h2.symm, h3.symm, h4.symm⟩
theorem g_pI : parseFieldDescriptor "I" = some .int := by decide +kernel
theorem g_pJ : parseFieldDescriptor "J" = some .long := by decide +kernel
theorem g_pZ : parseFieldDescriptor "Z" = some .boolean := by decide +kernel
theorem g_ne32 {x : Int32} {j : Int32} (h : ¬ x = j) : ¬ x.toInt = j.toInt := fun z => h (Int32.toInt_inj.mp z)
theorem g_swo4 {x : Int32} (q0 : ¬ x = 0) (q1 : ¬ x = 1) (q2 : ¬ x = 2) (q3 : ¬ x = 3) (q4 : ¬ x = 4) : x.toInt < 0 ∨ 4 < x.toInt := by
  have h0 := g_ne32 q0
  rw [show ((0 : Int32).toInt) = 0 from by decide] at h0
  have h1 := g_ne32 q1
  rw [show ((1 : Int32).toInt) = 1 from by decide] at h1
  have h2 := g_ne32 q2
  rw [show ((2 : Int32).toInt) = 2 from by decide] at h2
  have h3 := g_ne32 q3
  rw [show ((3 : Int32).toInt) = 3 from by decide] at h3
  have h4 := g_ne32 q4
  rw [show ((4 : Int32).toInt) = 4 from by decide] at h4
  omega
theorem g_swo5 {x : Int32} (q0 : ¬ x = 0) (q1 : ¬ x = 1) (q2 : ¬ x = 2) (q3 : ¬ x = 3) (q4 : ¬ x = 4) (q5 : ¬ x = 5) : x.toInt < 0 ∨ 5 < x.toInt := by
  have h0 := g_ne32 q0
  rw [show ((0 : Int32).toInt) = 0 from by decide] at h0
  have h1 := g_ne32 q1
  rw [show ((1 : Int32).toInt) = 1 from by decide] at h1
  have h2 := g_ne32 q2
  rw [show ((2 : Int32).toInt) = 2 from by decide] at h2
  have h3 := g_ne32 q3
  rw [show ((3 : Int32).toInt) = 3 from by decide] at h3
  have h4 := g_ne32 q4
  rw [show ((4 : Int32).toInt) = 4 from by decide] at h4
  have h5 := g_ne32 q5
  rw [show ((5 : Int32).toInt) = 5 from by decide] at h5
  omega
theorem g_swo6 {x : Int32} (q0 : ¬ x = 0) (q1 : ¬ x = 1) (q2 : ¬ x = 2) (q3 : ¬ x = 3) (q4 : ¬ x = 4) (q5 : ¬ x = 5) (q6 : ¬ x = 6) : x.toInt < 0 ∨ 6 < x.toInt := by
  have h0 := g_ne32 q0
  rw [show ((0 : Int32).toInt) = 0 from by decide] at h0
  have h1 := g_ne32 q1
  rw [show ((1 : Int32).toInt) = 1 from by decide] at h1
  have h2 := g_ne32 q2
  rw [show ((2 : Int32).toInt) = 2 from by decide] at h2
  have h3 := g_ne32 q3
  rw [show ((3 : Int32).toInt) = 3 from by decide] at h3
  have h4 := g_ne32 q4
  rw [show ((4 : Int32).toInt) = 4 from by decide] at h4
  have h5 := g_ne32 q5
  rw [show ((5 : Int32).toInt) = 5 from by decide] at h5
  have h6 := g_ne32 q6
  rw [show ((6 : Int32).toInt) = 6 from by decide] at h6
  omega
section ELet
variable {N : Nat} {own : String} {cc : ByteArray} {nL : Nat} {ret : Option FieldType} {d : Nat} {pc : Nat} {lc : List (Option Value)} {st : List Value} {I : Nat → Int32} {A : Nat → Nat → Int32} {L : Nat → Int64} {r : gR}
theorem e_lt {τ : Type} {f : Int32 → Option τ} {t : τ} {x : Int32} (h : g_lt x f = some t) (k : ∀ y, f y = some t → Ev N own cc nL ret d pc lc (.int y :: st) I A L r) : Ev N own cc nL ret d pc lc (.int x :: st) I A L r := k x h
theorem e_ltl {τ : Type} {f : Int64 → Option τ} {t : τ} {x : Int64} (h : g_lt x f = some t) (k : ∀ y, f y = some t → Ev N own cc nL ret d pc lc (.long y :: st) I A L r) : Ev N own cc nL ret d pc lc (.long x :: st) I A L r := k x h
theorem e_ltI {τ : Type} {f : (Nat → Int32) → Option τ} {t : τ} (h : g_lt I f = some t) (k : ∀ y, f y = some t → Ev N own cc nL ret d pc lc (st) y A L r) : Ev N own cc nL ret d pc lc (st) I A L r := k I h
theorem e_ltA {τ : Type} {f : (Nat → Nat → Int32) → Option τ} {t : τ} (h : g_lt A f = some t) (k : ∀ y, f y = some t → Ev N own cc nL ret d pc lc (st) I y L r) : Ev N own cc nL ret d pc lc (st) I A L r := k A h
theorem e_ltL {τ : Type} {f : (Nat → Int64) → Option τ} {t : τ} (h : g_lt L f = some t) (k : ∀ y, f y = some t → Ev N own cc nL ret d pc lc (st) I A y r) : Ev N own cc nL ret d pc lc (st) I A L r := k L h
end ELet
section ECall2
variable {N : Nat} {own : String} {cc : ByteArray} {nL : Nat} {ret : Option FieldType} {d : Nat} {pc : Nat} {lc : List (Option Value)} {st : List Value} {I : Nat → Int32} {A : Nat → Nat → Int32} {L : Nat → Int64} {r : gR}
variable {y : MethodName} {cy : ByteArray} {ny dy n idx : Nat} {ry : Option FieldType} {As S : List Value} {I' : Nat → Int32} {A' : Nat → Nat → Int32} {L' : Nat → Int64} {pc' : Nat}
theorem e_callV_i {x : Int32} {a ci : Nat} (hd : decode cc pc = .ok (.invokevirtual idx, 3)) (hp : pc + 3 = pc') (hlink : Cond.methodLink own idx y ∈ gT) (hm : g_mv y cy ny ry n) (hn : As.length = n) (hdd : dy + 1 ≤ d) (hst : (st.map fun v => v.category).sum ≤ 8) (hsh : g_sh a = (ci, 0)) (ha : a < N) (hci : ci < 8) (hcl : (g_cl ci).1 = y.cls)
    (hM : GM N y cy ny ry dy (.ref a :: As) I A L (some (.int x), (I', A', L'))) (hSt : S = As.reverse ++ .ref a :: st) (k : Ev N own cc nL ret d pc' lc (.int x :: st) I' A' L' r) : Ev N own cc nL ret d pc lc (S) I A L r := e_callV hd hp hlink hm hn hdd hst hsh ha hci hcl hM hSt k
theorem e_callS_i {x : Int32} (hd : decode cc pc = .ok (.invokestatic idx, 3)) (hp : pc + 3 = pc') (hlink : Cond.methodLink own idx y ∈ gT) (hm : g_ms y cy ny ry n) (hn : As.length = n) (hdd : dy + 1 ≤ d) (hst : (st.map fun v => v.category).sum ≤ 8)
    (hM : GM N y cy ny ry dy As I A L (some (.int x), (I', A', L'))) (hSt : S = As.reverse ++ st) (k : Ev N own cc nL ret d pc' lc (.int x :: st) I' A' L' r) : Ev N own cc nL ret d pc lc (S) I A L r := e_callS hd hp hlink hm hn hdd hst hM hSt k
theorem e_callVN_i {host : String} {x : Int32} {a ci : Nat} (hd : decode cc pc = .ok (.invokevirtual idx, 3)) (hp : pc + 3 = pc') (hlink : Cond.methodLinkNest own idx y host ∈ lw_tbl) (hm : g_mv y cy ny ry n) (hn : As.length = n) (hdd : dy + 1 ≤ d) (hst : (st.map fun v => v.category).sum ≤ 8) (hsh : g_sh a = (ci, 0)) (ha : a < N) (hci : ci < 8) (hcl : (g_cl ci).1 = y.cls)
    (hM : GM N y cy ny ry dy (.ref a :: As) I A L (some (.int x), (I', A', L'))) (hSt : S = As.reverse ++ .ref a :: st) (k : Ev N own cc nL ret d pc' lc (.int x :: st) I' A' L' r) : Ev N own cc nL ret d pc lc (S) I A L r := e_callVN hd hp hlink hm hn hdd hst hsh ha hci hcl hM hSt k
theorem e_callSN_i {host : String} {x : Int32} (hd : decode cc pc = .ok (.invokestatic idx, 3)) (hp : pc + 3 = pc') (hlink : Cond.methodLinkNest own idx y host ∈ lw_tbl) (hm : g_ms y cy ny ry n) (hn : As.length = n) (hdd : dy + 1 ≤ d) (hst : (st.map fun v => v.category).sum ≤ 8)
    (hM : GM N y cy ny ry dy As I A L (some (.int x), (I', A', L'))) (hSt : S = As.reverse ++ st) (k : Ev N own cc nL ret d pc' lc (.int x :: st) I' A' L' r) : Ev N own cc nL ret d pc lc (S) I A L r := e_callSN hd hp hlink hm hn hdd hst hM hSt k
theorem e_callV_l {x : Int64} {a ci : Nat} (hd : decode cc pc = .ok (.invokevirtual idx, 3)) (hp : pc + 3 = pc') (hlink : Cond.methodLink own idx y ∈ gT) (hm : g_mv y cy ny ry n) (hn : As.length = n) (hdd : dy + 1 ≤ d) (hst : (st.map fun v => v.category).sum ≤ 8) (hsh : g_sh a = (ci, 0)) (ha : a < N) (hci : ci < 8) (hcl : (g_cl ci).1 = y.cls)
    (hM : GM N y cy ny ry dy (.ref a :: As) I A L (some (.long x), (I', A', L'))) (hSt : S = As.reverse ++ .ref a :: st) (k : Ev N own cc nL ret d pc' lc (.long x :: st) I' A' L' r) : Ev N own cc nL ret d pc lc (S) I A L r := e_callV hd hp hlink hm hn hdd hst hsh ha hci hcl hM hSt k
theorem e_callS_l {x : Int64} (hd : decode cc pc = .ok (.invokestatic idx, 3)) (hp : pc + 3 = pc') (hlink : Cond.methodLink own idx y ∈ gT) (hm : g_ms y cy ny ry n) (hn : As.length = n) (hdd : dy + 1 ≤ d) (hst : (st.map fun v => v.category).sum ≤ 8)
    (hM : GM N y cy ny ry dy As I A L (some (.long x), (I', A', L'))) (hSt : S = As.reverse ++ st) (k : Ev N own cc nL ret d pc' lc (.long x :: st) I' A' L' r) : Ev N own cc nL ret d pc lc (S) I A L r := e_callS hd hp hlink hm hn hdd hst hM hSt k
theorem e_callVN_l {host : String} {x : Int64} {a ci : Nat} (hd : decode cc pc = .ok (.invokevirtual idx, 3)) (hp : pc + 3 = pc') (hlink : Cond.methodLinkNest own idx y host ∈ lw_tbl) (hm : g_mv y cy ny ry n) (hn : As.length = n) (hdd : dy + 1 ≤ d) (hst : (st.map fun v => v.category).sum ≤ 8) (hsh : g_sh a = (ci, 0)) (ha : a < N) (hci : ci < 8) (hcl : (g_cl ci).1 = y.cls)
    (hM : GM N y cy ny ry dy (.ref a :: As) I A L (some (.long x), (I', A', L'))) (hSt : S = As.reverse ++ .ref a :: st) (k : Ev N own cc nL ret d pc' lc (.long x :: st) I' A' L' r) : Ev N own cc nL ret d pc lc (S) I A L r := e_callVN hd hp hlink hm hn hdd hst hsh ha hci hcl hM hSt k
theorem e_callSN_l {host : String} {x : Int64} (hd : decode cc pc = .ok (.invokestatic idx, 3)) (hp : pc + 3 = pc') (hlink : Cond.methodLinkNest own idx y host ∈ lw_tbl) (hm : g_ms y cy ny ry n) (hn : As.length = n) (hdd : dy + 1 ≤ d) (hst : (st.map fun v => v.category).sum ≤ 8)
    (hM : GM N y cy ny ry dy As I A L (some (.long x), (I', A', L'))) (hSt : S = As.reverse ++ st) (k : Ev N own cc nL ret d pc' lc (.long x :: st) I' A' L' r) : Ev N own cc nL ret d pc lc (S) I A L r := e_callSN hd hp hlink hm hn hdd hst hM hSt k
theorem e_callV_v {a ci : Nat} (hd : decode cc pc = .ok (.invokevirtual idx, 3)) (hp : pc + 3 = pc') (hlink : Cond.methodLink own idx y ∈ gT) (hm : g_mv y cy ny ry n) (hn : As.length = n) (hdd : dy + 1 ≤ d) (hst : (st.map fun v => v.category).sum ≤ 8) (hsh : g_sh a = (ci, 0)) (ha : a < N) (hci : ci < 8) (hcl : (g_cl ci).1 = y.cls)
    (hM : GM N y cy ny ry dy (.ref a :: As) I A L (none, (I', A', L'))) (hSt : S = As.reverse ++ .ref a :: st) (k : Ev N own cc nL ret d pc' lc (st) I' A' L' r) : Ev N own cc nL ret d pc lc (S) I A L r := e_callV hd hp hlink hm hn hdd hst hsh ha hci hcl hM hSt k
theorem e_callS_v (hd : decode cc pc = .ok (.invokestatic idx, 3)) (hp : pc + 3 = pc') (hlink : Cond.methodLink own idx y ∈ gT) (hm : g_ms y cy ny ry n) (hn : As.length = n) (hdd : dy + 1 ≤ d) (hst : (st.map fun v => v.category).sum ≤ 8)
    (hM : GM N y cy ny ry dy As I A L (none, (I', A', L'))) (hSt : S = As.reverse ++ st) (k : Ev N own cc nL ret d pc' lc (st) I' A' L' r) : Ev N own cc nL ret d pc lc (S) I A L r := e_callS hd hp hlink hm hn hdd hst hM hSt k
theorem e_callVN_v {host : String} {a ci : Nat} (hd : decode cc pc = .ok (.invokevirtual idx, 3)) (hp : pc + 3 = pc') (hlink : Cond.methodLinkNest own idx y host ∈ lw_tbl) (hm : g_mv y cy ny ry n) (hn : As.length = n) (hdd : dy + 1 ≤ d) (hst : (st.map fun v => v.category).sum ≤ 8) (hsh : g_sh a = (ci, 0)) (ha : a < N) (hci : ci < 8) (hcl : (g_cl ci).1 = y.cls)
    (hM : GM N y cy ny ry dy (.ref a :: As) I A L (none, (I', A', L'))) (hSt : S = As.reverse ++ .ref a :: st) (k : Ev N own cc nL ret d pc' lc (st) I' A' L' r) : Ev N own cc nL ret d pc lc (S) I A L r := e_callVN hd hp hlink hm hn hdd hst hsh ha hci hcl hM hSt k
theorem e_callSN_v {host : String} (hd : decode cc pc = .ok (.invokestatic idx, 3)) (hp : pc + 3 = pc') (hlink : Cond.methodLinkNest own idx y host ∈ lw_tbl) (hm : g_ms y cy ny ry n) (hn : As.length = n) (hdd : dy + 1 ≤ d) (hst : (st.map fun v => v.category).sum ≤ 8)
    (hM : GM N y cy ny ry dy As I A L (none, (I', A', L'))) (hSt : S = As.reverse ++ st) (k : Ev N own cc nL ret d pc' lc (st) I' A' L' r) : Ev N own cc nL ret d pc lc (S) I A L r := e_callSN hd hp hlink hm hn hdd hst hM hSt k
theorem e_callV_a {x : Nat} {a ci : Nat} (hd : decode cc pc = .ok (.invokevirtual idx, 3)) (hp : pc + 3 = pc') (hlink : Cond.methodLink own idx y ∈ gT) (hm : g_mv y cy ny ry n) (hn : As.length = n) (hdd : dy + 1 ≤ d) (hst : (st.map fun v => v.category).sum ≤ 8) (hsh : g_sh a = (ci, 0)) (ha : a < N) (hci : ci < 8) (hcl : (g_cl ci).1 = y.cls)
    (hM : GM N y cy ny ry dy (.ref a :: As) I A L (some (.ref x), (I', A', L'))) (hSt : S = As.reverse ++ .ref a :: st) (k : Ev N own cc nL ret d pc' lc (.ref x :: st) I' A' L' r) : Ev N own cc nL ret d pc lc (S) I A L r := e_callV hd hp hlink hm hn hdd hst hsh ha hci hcl hM hSt k
theorem e_callS_a {x : Nat} (hd : decode cc pc = .ok (.invokestatic idx, 3)) (hp : pc + 3 = pc') (hlink : Cond.methodLink own idx y ∈ gT) (hm : g_ms y cy ny ry n) (hn : As.length = n) (hdd : dy + 1 ≤ d) (hst : (st.map fun v => v.category).sum ≤ 8)
    (hM : GM N y cy ny ry dy As I A L (some (.ref x), (I', A', L'))) (hSt : S = As.reverse ++ st) (k : Ev N own cc nL ret d pc' lc (.ref x :: st) I' A' L' r) : Ev N own cc nL ret d pc lc (S) I A L r := e_callS hd hp hlink hm hn hdd hst hM hSt k
theorem e_callVN_a {host : String} {x : Nat} {a ci : Nat} (hd : decode cc pc = .ok (.invokevirtual idx, 3)) (hp : pc + 3 = pc') (hlink : Cond.methodLinkNest own idx y host ∈ lw_tbl) (hm : g_mv y cy ny ry n) (hn : As.length = n) (hdd : dy + 1 ≤ d) (hst : (st.map fun v => v.category).sum ≤ 8) (hsh : g_sh a = (ci, 0)) (ha : a < N) (hci : ci < 8) (hcl : (g_cl ci).1 = y.cls)
    (hM : GM N y cy ny ry dy (.ref a :: As) I A L (some (.ref x), (I', A', L'))) (hSt : S = As.reverse ++ .ref a :: st) (k : Ev N own cc nL ret d pc' lc (.ref x :: st) I' A' L' r) : Ev N own cc nL ret d pc lc (S) I A L r := e_callVN hd hp hlink hm hn hdd hst hsh ha hci hcl hM hSt k
theorem e_callSN_a {host : String} {x : Nat} (hd : decode cc pc = .ok (.invokestatic idx, 3)) (hp : pc + 3 = pc') (hlink : Cond.methodLinkNest own idx y host ∈ lw_tbl) (hm : g_ms y cy ny ry n) (hn : As.length = n) (hdd : dy + 1 ≤ d) (hst : (st.map fun v => v.category).sum ≤ 8)
    (hM : GM N y cy ny ry dy As I A L (some (.ref x), (I', A', L'))) (hSt : S = As.reverse ++ st) (k : Ev N own cc nL ret d pc' lc (.ref x :: st) I' A' L' r) : Ev N own cc nL ret d pc lc (S) I A L r := e_callSN hd hp hlink hm hn hdd hst hM hSt k
end ECall2
