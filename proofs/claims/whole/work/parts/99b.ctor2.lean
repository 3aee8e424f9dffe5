/-! constructors: rows that make more than one cell; calls; the contract -/
def nl (ci : Nat) : List Value := (List.range (nf ci)).map fun k => defaultValue (clsY ci k)
theorem nl_len (ci : Nat) : (nl ci).length = nf ci := by unfold nl; rw [List.length_map, List.length_range]
theorem nl_at {ci j : Nat} (h : j < nf ci) : defaultValue (clsY ci j) = vp_V (nl ci) j := by
  unfold nl vp_V
  rw [List.getD_eq_getElem?_getD, List.getElem?_map, List.getElem?_range h]
  rfl
theorem CW_apps {E : EV} {a0 n m : Nat} {ws bs : va_W} {H H1 : Heap} (h : CW E a0 n ws H) (hb : bs.length = m) (hz : H1.size = a0 + n + m) (hx : va_P (eG E) vwCl bs H1) (ha : ∀ k q, bs[k]? = some q → q.1 = a0 + n + k) (hq : ∀ q, q < a0 + n → H1[q]? = H[q]?) : CW E a0 (n + m) (ws ++ bs) H1 := by
  obtain ⟨h1, h2, h3, h4⟩ := h
  refine ⟨by rw [List.length_append, h1, hb], by omega, (h3.kept (fun k q hk => ?_)).app hx, fun k q hk => ?_⟩
  · have := h4 k q hk
    have hl := (List.getElem?_eq_some_iff.mp hk).1
    exact hq q.1 (by omega)
  · by_cases hl : k < ws.length
    · rw [List.getElem?_append_left hl] at hk
      exact h4 k q hk
    · rw [List.getElem?_append_right (by omega)] at hk
      have := ha _ q hk
      omega
theorem CW_init {E : EV} {a0 n : Nat} {ws : va_W} {x : Nat × va_E} {H : Heap} (h : CW E a0 (n + 1) (ws ++ [x]) H) : ws.length = n ∧ va_P (eG E) vwCl ws H ∧ (∀ k q, ws[k]? = some q → q.1 = a0 + k) ∧ va_P (eG E) vwCl [x] H ∧ x.1 = a0 + n := by
  obtain ⟨h1, h2, h3, h4⟩ := h
  have hl : ws.length = n := by
    rw [List.length_append, List.length_singleton] at h1
    omega
  have ex : (ws ++ [x])[n]? = some x := by rw [List.getElem?_append_right (by omega), show n - ws.length = 0 by omega]; rfl
  have ek : ∀ k q, ws[k]? = some q → (ws ++ [x])[k]? = some q := fun k q hk => by rw [List.getElem?_append_left (List.getElem?_eq_some_iff.mp hk).1]; exact hk
  refine ⟨hl, fun k q hk => h3 k q (ek k q hk), fun k q hk => h4 k q (ek k q hk), fun k q hk => ?_, h4 n x ex⟩
  cases k with
  | zero => cases hk; exact h3 n x ex
  | succ k => cases hk
/-- an array of arrays and its rows -/
def rowsW (E : EV) (a N M : Nat) : va_W := (a, .inl (eQ E, N, .inr (.inr (.inr (.inr fun j => some (a + 1 + j)))))) :: (List.range N).map fun j => (a + 1 + j, .inl (eI E, M, .inl fun _ => 0))
theorem rowsW_len (E : EV) (a N M : Nat) : (rowsW E a N M).length = 1 + N := by unfold rowsW; rw [List.length_cons, List.length_map, List.length_range]; omega
theorem rowsW_at (E : EV) (a N M : Nat) : ∀ k q, (rowsW E a N M)[k]? = some q → q.1 = a + k := by
  intro k q hk
  cases k with
  | zero => cases hk; rfl
  | succ k =>
    have hk : ((List.range N).map fun j => (a + 1 + j, (.inl (eI E, M, .inl fun _ => 0) : va_E)))[k]? = some q := hk
    rw [List.getElem?_map] at hk
    cases h : (List.range N)[k]? with
    | none => rw [h] at hk; cases hk
    | some z =>
      rw [h] at hk
      cases hk
      have hz := (List.getElem?_eq_some_iff.mp h).2
      rw [List.getElem_range] at hz
      show a + 1 + z = a + (k + 1)
      omega
def rmk (d cs ss : Nat) : Room := { frames := d, cells := cs, slots := ss, locals := 64 * d }
def PcN (E : EV) (as : List Value) (a0 ci : Nat) : Array Value → State → Prop := va_Pc as (fun U => CK0 E U ∧ CW E a0 1 [(a0, .inr (ci, nl ci))] U.heap)
theorem blindn {E : EV} {as : List Value} {a0 ci : Nat} : FrameBlind (PcN E as a0 ci) := fun a U g mk q => ⟨q.1, CK0_same q.2.1 rfl, q.2.2⟩
def CtM (E : EV) (y : MethodName) (cc : ByteArray) (nL : Nat) (as : List Value) (a0 ci m : Nat) (res : va_W) (S d : Nat) : Prop := Met (eL E) y (Cond.code y cc nL none :: TW) (rmk d m S) (PcN E (.ref a0 :: as) a0 ci) (QcN E a0 (m + 1) res) m S (up0 a0)
section CJ2
variable {E : EV} {R : Room} {p : Program} {e : Env} {s : State} {mid : MethodId} {args : Array Value} {below : List Frame} {meth : Method} {c : Code} {cc : ByteArray} {nL ci : Nat} {a0 : Nat} {js : Array Slot} {Z : State → Prop} {pc : Nat} {st : List Value} {n : Nat} {ws : va_W} {cells slots : Nat}
theorem j_multi {ix N M : Nat} {x y : Int32} (X : CX E p s mid args meth c cc nL ci) (hw : Cond.classLink (clsC ci) ix "[[I" ∈ TW) (hx : ¬ x < 0) (hy : ¬ y < 0) (eN : x.toNatClampNeg = N) (eM : y.toNatClampNeg = M) (hN : N ≤ 3000) (hM : M ≤ 3000) (hc : cells + (1 + N) ≤ R.cells) (hs : slots + (N + N * M) ≤ R.slots) (hd : decode cc pc = .ok (.multianewarray ix 2, 4))
    (kk : Cj E R p e s mid args below meth c a0 js Z (pc + 4) (.ref (a0 + n) :: st) (n + (1 + N)) (ws ++ rowsW E (a0 + n) N M) (cells + 1 + N) (slots + N + N * M)) : Cj E R p e s mid args below meth c a0 js Z pc (.int y :: .int x :: st) n ws cells slots := by
  obtain ⟨x1, x2, x3, x4, x5, x6, x7, x8, x9⟩ := X
  intro H locs hC hS0
  refine w_multi x1 x2 x5 (x6 _ hw) x9.2.2 hx hy eN eM hN hM hc hs hd hC.2.1 fun H1 z1 e1 e2 o1 => ?_
  refine kk H1 _ (CW_apps hC (rowsW_len E _ N M) (by omega) (fun k q hk => ?_) (rowsW_at E _ N M) o1) ⟨Nat.le_trans hS0.1 (by rw [hC.2.1, z1]; omega), fun q h1 h2 => (o1 q (Nat.lt_of_lt_of_le h1 (by rw [← hC.2.1]; exact hS0.1))).trans (hS0.2.1 q h1 h2), fun z hz => ?_⟩
  · cases k with
    | zero => cases hk; exact e1
    | succ k =>
      have hk : ((List.range N).map fun j => (a0 + n + 1 + j, (.inl (eI E, M, .inl fun _ => 0) : va_E)))[k]? = some q := hk
      rw [List.getElem?_map] at hk
      cases h : (List.range N)[k]? with
      | none => rw [h] at hk; cases hk
      | some z =>
        rw [h] at hk
        cases hk
        exact e2 z (List.mem_range.mp (List.mem_of_getElem? h))
  · rcases List.mem_append.mp hz with h | h
    · exact hS0.2.2 z h
    · obtain ⟨j, -, rfl⟩ := List.mem_map.mp h
      exact Nat.le_add_right a0 n
theorem j_new {ix cj : Nat} (X : CX E p s mid args meth c cc nL ci) (hcj : cj < 11) (hw : Cond.classLink (clsC ci) ix (clsC cj) ∈ TW) (hi : Cond.instantiable (clsC cj) (nf cj) ∈ TW) (hz : Cond.initialized (clsC cj) ∈ TW) (hc : cells + 1 ≤ R.cells) (hs : slots + nf cj ≤ R.slots) (hd : decode cc pc = .ok (.new ix, 3))
    (kk : Cj E R p e s mid args below meth c a0 js Z (pc + 3) (.ref (a0 + n) :: st) (n + 1) (ws ++ [(a0 + n, .inr (cj, nl cj))]) (cells + 1) (slots + nf cj)) : Cj E R p e s mid args below meth c a0 js Z pc st n ws cells slots := by
  obtain ⟨x1, x2, x3, x4, x5, x6, x7, x8, x9⟩ := X
  intro H locs hC hS0
  have hKn := x9.1.1 cj _ (cls_at _ hcj)
  refine W.newcK x1 x2 x5 (x6 _ hw) (x6 _ hi) (x6 _ hz) (g := F0 mid pc js st) rfl hd hc hs hKn.2.1 hC.2.1 fun H1 kC hkC e1 z1 o1 => ?_
  refine kk H1 locs (CW_app hC z1 ⟨_, cls_at _ hcj, (u_born (clsY cj) x6 (tw_lays _ hcj) hKn hkC e1 (cls_ty _ hcj)).to (fun j hj => nl_at hj)⟩ o1) ⟨Nat.le_trans hS0.1 (by rw [hC.2.1, z1]; omega), fun q h1 h2 => (o1 q (Nat.lt_of_lt_of_le h1 (by rw [← hC.2.1]; exact hS0.1))).trans (hS0.2.1 q h1 h2), hS0.2.2⟩
theorem j_dup {a : Nat} (X : CX E p s mid args meth c cc nL ci) (hd : decode cc pc = .ok (.dup, 1)) (kk : Cj E R p e s mid args below meth c a0 js Z (pc + 1) (.ref a :: .ref a :: st) n ws cells slots) : Cj E R p e s mid args below meth c a0 js Z pc (.ref a :: st) n ws cells slots := fun H locs h1 h2 => lv_dup X.1 X.2.1 hd rfl (kk H locs h1 h2)
/-- behind a constructor's call -/
theorem j_back {cj m S : Nat} {As : List Value} {res : va_W} {a : Array Value} {st1 : List Value} (hr : ∀ H locs, CW E a0 (n + 1) (ws ++ [(a0 + n, .inr (cj, nl cj))]) H → va_S (up0 a0) s.heap H locs → va_Run p (eL E) e R s mid args below meth c H locs cells slots m S (F0 mid pc js st1) st (QcN E (a0 + n) (m + 1) res a) (up0 (a0 + n)))
    (kk : Cj E R p e s mid args below meth c a0 js Z (pc + 3) st (n + (m + 1)) (ws ++ res) (cells + m) (slots + S)) : Cj E R p e s mid args below meth c a0 js Z pc st1 (n + 1) (ws ++ [(a0 + n, .inr (cj, nl cj))]) cells slots := by
  intro H locs hC hS0 T hT Y
  obtain ⟨v, st₀, t, T', L, h0, X', hL, e1, e2, ⟨⟨hv, hCW⟩, hz, hkk⟩, stp⟩ := hr H locs hC hS0 T hT Y
  cases hv
  rw [h0] at hz hkk
  obtain ⟨i1, i2, i3, i4, i5⟩ := CW_init hC
  have hsz := hC.2.1
  obtain ⟨r1, r2, r3, r4⟩ := hCW
  have hold : ∀ q, q < a0 + n → t.heap[q]? = H[q]? := fun q hq => hkk q (by omega) (fun w => by have : a0 + n ≤ q := w; omega)
  have hC2 : CW E a0 (n + (m + 1)) (ws ++ res) T'.heap := by
    rw [e1]
    refine ⟨by rw [List.length_append, i1, r1], by omega, (i2.kept (fun k q hk => ?_)).app r3, fun k q hk => ?_⟩
    · have := i3 k q hk
      have hl := (List.getElem?_eq_some_iff.mp hk).1
      exact hold q.1 (by omega)
    · by_cases hl : k < ws.length
      · rw [List.getElem?_append_left hl] at hk
        exact i3 k q hk
      · rw [List.getElem?_append_right (by omega)] at hk
        have := r4 _ q hk
        omega
  obtain ⟨t2, a1, b1⟩ := kk T'.heap (locs ++ L) hC2 ⟨Nat.le_trans hS0.1 (by rw [e1]; exact hz), fun q h1 h2 => by
      have hq : q < a0 := Nat.not_le.mp h2
      rw [e1, hold q (by omega)]; exact hS0.2.1 q h1 h2, fun q hq => by
      rcases List.mem_append.mp hq with h | h
      · exact hS0.2.2 q h
      · exact Nat.le_trans (Nat.le_add_right a0 n) (hL q h)⟩ T' rfl X'
  exact ⟨t2, stp t2 a1, b1⟩
theorem j_pre {cj : Nat} {As : List Value} (X : CX E p s mid args meth c cc nL ci) {H : Heap} (hC : CW E a0 (n + 1) (ws ++ [(a0 + n, .inr (cj, nl cj))]) H) : PreS s H (PcN E (.ref (a0 + n) :: As) (a0 + n) cj) (.ref (a0 + n) :: As) := by
  refine ⟨blindn, fun U hU hW => ⟨rfl, CK0_warm X.2.2.2.2.2.2.2.2 hW, ?_⟩⟩
  obtain ⟨i1, i2, i3, i4, i5⟩ := CW_init hC
  rw [hU]
  refine ⟨rfl, by have := hC.2.1; omega, i4, fun k q hk => ?_⟩
  cases k with
  | zero => cases hk; rfl
  | succ k => cases hk
/-- a constructor is called: of a nest mate's own, or open to all -/
theorem j_callN {ix cj m S d na nL' : Nat} {y : MethodName} {cc' : ByteArray} {As : List Value} {res : va_W} (X : CX E p s mid args meth c cc nL ci) (hjs : js.size = nL) (hM : CtM E y cc' nL' As (a0 + n) cj m res S d) (hw : Cond.methodLinkNest (clsC ci) ix y "ChannelSqueeze" ∈ NWl) (hcode : Cond.code y cc' nL' none ∈ TW) (hini : Cond.initialized y.cls ∈ TW) (hinst : Cond.instanceMethod y ∈ TW) (hyn : y.name = "<init>") (hna : As.length = na)
    (hd1 : y.cls ≠ "java/lang/invoke/MethodHandle" ∧ y.cls ≠ "java/lang/invoke/VarHandle" ∧ (parseMethodDescriptor y.desc).map (fun d => d.parameters.length) = some na) (hR : d + 1 ≤ R.frames ∧ 8 + (nL' + 11) + 64 * d ≤ R.locals) (hcat : (st.map fun v => v.category).sum ≤ 8) (hc : cells + m ≤ R.cells) (hs : slots + S ≤ R.slots) (hd : decode cc pc = .ok (.invokespecial ix, 3))
    (kk : Cj E R p e s mid args below meth c a0 js Z (pc + 3) st (n + (m + 1)) (ws ++ res) (cells + m) (slots + S)) : Cj E R p e s mid args below meth c a0 js Z pc (As.reverse ++ .ref (a0 + n) :: st) (n + 1) (ws ++ [(a0 + n, .inr (cj, nl cj))]) cells slots := by
  refine j_back (m := m) (S := S) (res := res) (As := As) (a := (Value.ref (a0 + n) :: As).toArray) (fun H locs hC hS0 => ?_) kk
  obtain ⟨x1, x2, x3, x4, x5, x6, x7, x8, x9⟩ := id X
  exact va_runIN (g := F0 mid pc js (As.reverse ++ .ref (a0 + n) :: st)) (rest := st) (b := a0 + n) (As := As) ⟨x1, x2, x3, x5, x6⟩ hM ⟨va_cnB na x6 (good_code hcode) rfl rfl rfl (x9.2.1 _ hw) (x6 _ hini) hd1 hR, hyn, x6 _ hinst⟩ (j_pre X hC) rfl hna hjs rfl (lv_room hcat) hd ⟨hc, hs⟩
theorem j_callP {ix cj m S d na nL' : Nat} {y : MethodName} {cc' : ByteArray} {As : List Value} {res : va_W} (X : CX E p s mid args meth c cc nL ci) (hjs : js.size = nL) (hM : CtM E y cc' nL' As (a0 + n) cj m res S d) (hw : Cond.methodLink (clsC ci) ix y ∈ TW) (hcode : Cond.code y cc' nL' none ∈ TW) (hini : Cond.initialized y.cls ∈ TW) (hinst : Cond.instanceMethod y ∈ TW) (hyn : y.name = "<init>") (hna : As.length = na)
    (hd1 : y.cls ≠ "java/lang/invoke/MethodHandle" ∧ y.cls ≠ "java/lang/invoke/VarHandle" ∧ (parseMethodDescriptor y.desc).map (fun d => d.parameters.length) = some na) (hR : d + 1 ≤ R.frames ∧ 8 + (nL' + 11) + 64 * d ≤ R.locals) (hcat : (st.map fun v => v.category).sum ≤ 8) (hc : cells + m ≤ R.cells) (hs : slots + S ≤ R.slots) (hd : decode cc pc = .ok (.invokespecial ix, 3))
    (kk : Cj E R p e s mid args below meth c a0 js Z (pc + 3) st (n + (m + 1)) (ws ++ res) (cells + m) (slots + S)) : Cj E R p e s mid args below meth c a0 js Z pc (As.reverse ++ .ref (a0 + n) :: st) (n + 1) (ws ++ [(a0 + n, .inr (cj, nl cj))]) cells slots := by
  refine j_back (m := m) (S := S) (res := res) (As := As) (a := (Value.ref (a0 + n) :: As).toArray) (fun H locs hC hS0 => ?_) kk
  obtain ⟨x1, x2, x3, x4, x5, x6, x7, x8, x9⟩ := id X
  exact va_runI (g := F0 mid pc js (As.reverse ++ .ref (a0 + n) :: st)) (rest := st) (b := a0 + n) (As := As) ⟨x1, x2, x3, x5, x6⟩ hM ⟨callB_of na x6 (good_code hcode) rfl rfl rfl (x6 _ hini) (x6 _ hw) hd1 hR, hyn, x6 _ hinst⟩ (j_pre X hC) rfl hna hjs rfl (lv_room hcat) hd ⟨hc, hs⟩
end CJ2
/-- a constructor's contract out of its walk -/
theorem ct_of {E : EV} {y : MethodName} {cc : ByteArray} {nL : Nat} {as : List Value} {a0 ci m : Nat} {res : va_W} {S d : Nat} (hy : plainName y.cls = true) (hyn : y.name = "<init>") (hcl : y.cls = clsC ci)
    (body : ∀ p e s mid below meth c js, CX E p s mid (Value.ref a0 :: as).toArray meth c cc nL ci → js = (lg_sl (.ref a0 :: as) ++ List.replicate (nL - (lg_sl (.ref a0 :: as)).length) Slot.unset).toArray → Cj E (rmk d m S) p e s mid (Value.ref a0 :: as).toArray below meth c a0 js (MQ below (QcN E a0 (m + 1) res) (Value.ref a0 :: as).toArray s m S (up0 a0)) 0 [] 1 [(a0, .inr (ci, nl ci))] 0 0) : CtM E y cc nL as a0 ci m res S d := by
  refine Met.ofW (cc := cc) (maxL := nL) (ret := none) hy rfl ?_
  intro p e s mid args below meth c s₁ B hml hv'
  obtain ⟨rfl, hK, hCW⟩ := hv'
  have hts0 := atoms_spec (ws := Cond.code y cc nL none :: TW) B.pre
  rw [lg_entry_eq]
  refine body p e s mid below meth c _ ⟨B.exec, B.bytes, hml, B.returns, by rw [← hcl]; exact findClass_of_methodNamed B.named, fun w hw => hts0 w (List.mem_cons_of_mem _ hw), B.notSynchronized, by rw [← hyn]; exact (name_of_methodNamed B.named B.method).1, hK⟩ rfl s.heap [] hCW va_S.rf
theorem j_ret {E : EV} {R : Room} {p : Program} {e : Env} {s : State} {mid : MethodId} {args : Array Value} {below : List Frame} {meth : Method} {c : Code} {cc : ByteArray} {nL ci : Nat} {a0 : Nat} {js : Array Slot} {pc m S : Nat} {ws : va_W} (X : CX E p s mid args meth c cc nL ci) (hd : decode cc pc = .ok (.return_, 1)) : Cj E R p e s mid args below meth c a0 js (MQ below (QcN E a0 (m + 1) ws) args s m S (up0 a0)) pc [] (m + 1) ws m S := by
  obtain ⟨x1, x2, x3, x4, x5, x6, x7, x8, x9⟩ := X
  intro H locs hC hS0
  exact W.vret x1 x2 x4 (fun t ht hW => ⟨⟨rfl, by rw [ht]; exact hC⟩, hS0.F ht⟩) hS0.2.2 hd x7
