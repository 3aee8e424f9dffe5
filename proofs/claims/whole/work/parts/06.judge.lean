/-! judgements of the small machine -/
def strLen : List Nat := [8, 7, 2, 5, 2, 5, 3, 6, 14]
def strByt : List (List Int32) := [[99, 104, 97, 110, 110, 101, 108, 115], [115, 116, 97, 116, 105, 111, 110], [97, 116], [114, 101, 97, 99, 104], [111, 110], [119, 111, 114, 116, 104], [110, 111, 116], [98, 111, 114, 100, 101, 114], [110, 111, 32, 115, 117, 99, 104, 32, 108, 101, 116, 116, 101, 114]]
def tysE (E : EV) : List (ClassId × FieldType) := [(eI E, .int), (eB E, .byte), (eZ E, .boolean), (eJ E, .long), (eQ E, .array .int)]
def CK (E : EV) (U : State) : Prop := GE E ∧ va_K (eG E) vwCl (tysE E) U ∧ (∀ w ∈ NWl, va_Nw w U) ∧ (∀ q ∈ slk, vk_R (cnm q.1) q.2.1 q.2.2.2 (eA E q.2.2.1 0) U) ∧ vk_S 9 strLen strByt (fun i => eA E (300 + i) 0) (eV E) (AA E) U U.heap ∧ va_Z "java/lang/String" "COMPACT_STRINGS" "Z" (.int 1) (AA E) U U.heap ∧ va_Zq "jdk/internal/util/Preconditions" "SIOOBE_FORMATTER" "Ljava/util/function/BiFunction;" (AA E) U U.heap
theorem nw_warm {w : Cond} (hw : nestWord w = true) {s U : State} (hW : s.WarmedH U.vm) (h : va_Nw w s) : va_Nw w U := by
  cases w <;> first | (simp [nestWord] at hw; done) | exact va_Nw.warmF hW h | exact va_Nw.warmM hW h
theorem nw_same {w : Cond} (hw : nestWord w = true) {u U : State} (hv : u.vm = U.vm) (h : va_Nw w u) : va_Nw w U := by
  cases w <;> first | (simp [nestWord] at hw; done) | exact va_Nw.same rfl hv h
theorem CK_warm {E : EV} {s U : State} (h : CK E s) (hW : s.WarmedH U.vm) (hq : ∀ a : Nat, a < s.heap.size → ¬ AA E a → U.heap[a]? = s.heap[a]?) : CK E U := by
  obtain ⟨h1, h2, h3, h4, h5, h6, h7⟩ := h
  exact ⟨h1, va_K.moved hW.alike h2, fun w hw => nw_warm (List.mem_filter.mp hw).2 hW (h3 w hw), fun q hqm => vk_R.warm hW (h4 q hqm), vk_S.moved hW.alike (vk_S.kept h5 hq), va_Z.moved hW.alike (va_Z.kept h6 hq), va_Zq.moved hW.alike (va_Zq.kept h7 hq)⟩
theorem CK_same {E : EV} {u U : State} (h : CK E u) (hv : u.vm = U.vm) (hh : u.heap = U.heap) : CK E U := by
  have ha : u.vm.Alike U.vm := by rw [hv]; exact Vm.Alike.refl _
  obtain ⟨h1, h2, h3, h4, h5, h6, h7⟩ := h
  rw [hh] at h5 h6 h7
  exact ⟨h1, va_K.moved ha h2, fun w hw => nw_same (List.mem_filter.mp hw).2 hv (h3 w hw), fun q hqm => vk_R.same hv.symm (h4 q hqm), vk_S.moved ha h5, va_Z.moved ha h6, va_Zq.moved ha h7⟩
def Qc (E : EV) (Q : Option AV → Me → Prop) : Array Value → State → Outcome → State → Prop := fun _ st oc t => (∃ (r : Option AV) (M' : Me), oc = .returned (r.map (cv E)) ∧ Q r M' ∧ okMe M' ∧ (∀ v, r = some v → okV v) ∧ va_P (eG E) vwCl (wsE E M') t.heap) ∧ va_F (AA E) st t
def rmd (d : Nat) : Room := { frames := d, cells := 0, slots := 0, locals := 64 * d }
def FX (E : EV) (m : MC) (p : Program) (s : State) (mid : MethodId) (args : Array Value) (meth : Method) (c : Code) : Prop :=
  p.tables.exec = Jvm.exec ∧ c.code = mB m ∧ c.maxLocals = mL m ∧ meth.sig.returnType = mR m ∧ s.vm.findClass (cnm (mO m)) = some mid.cls ∧ (∀ w ∈ TW, w.before args s = true) ∧ meth.locks = false ∧ CK E s
def Wp (E : EV) (d : Nat) (m : MC) (pc : Nat) (ls : List (Option AV)) (st : List AV) (M : Me) (Q : Option AV → Me → Prop) : Prop :=
  ∀ (p : Program) (e : Env) (s : State) (mid : MethodId) (args : Array Value) (below : List Frame) (meth : Method) (c : Code) (H : Heap) (locs : List Loc) (js : Array Slot),
    FX E m p s mid args meth c → va_P (eG E) vwCl (wsE E M) H → va_S (AA E) s.heap H locs → lv_has js (mL m) (lvl E 0 ls) → okSt st → okLs ls → okMe M →
    W p (eL E) e (rmd d) s mid args below meth c H locs 0 0 (MQ below (Qc E Q) args s 0 0 (AA E)) (F0 mid pc js (st.map (cv E)))
def Pcm (E : EV) (as : List AV) (M : Me) : Array Value → State → Prop := va_Pc (as.map (cv E)) (fun U => CK E U ∧ va_P (eG E) vwCl (wsE E M) U.heap)
def Mt (E : EV) (d : Nat) (m : MC) (as : List AV) (M : Me) (Q : Option AV → Me → Prop) : Prop :=
  okSt as → okMe M → Met (eL E) (mN m) (Cond.code (mN m) (mB m) (mL m) (mR m) :: TW) (rmd d) (Pcm E as M) (Qc E Q) 0 0 (AA E)
def CallK (E : EV) (d : Nat) (m : MC) (as : List AV) (M : Me) (K : Option AV → Me → Prop) : Prop := ∃ (d' : Nat) (Q' : Option AV → Me → Prop), d' < d ∧ Mt E d' m as M Q' ∧ ∀ r M', Q' r M' → K r M'
theorem CallK.mk {E : EV} {d : Nat} {m : MC} {as : List AV} {M : Me} {K Q' : Option AV → Me → Prop} (d' : Nat) (hd : d' < d) (h : Mt E d' m as M Q') (hk : ∀ r M', Q' r M' → K r M') : CallK E d m as M K := ⟨d', Q', hd, h, hk⟩
theorem Qc.mono {E : EV} {Q Q' : Option AV → Me → Prop} (h : ∀ r M, Q r M → Q' r M) {a : Array Value} {s t : State} {o : Outcome} (hq : Qc E Q a s o t) : Qc E Q' a s o t := by
  obtain ⟨⟨r, M', h1, h2, h3⟩, h4⟩ := hq
  exact ⟨⟨r, M', h1, h _ _ h2, h3⟩, h4⟩
theorem Wp.mono {E : EV} {d : Nat} {m : MC} {pc : Nat} {ls : List (Option AV)} {st : List AV} {M : Me} {Q Q' : Option AV → Me → Prop} (h : Wp E d m pc ls st M Q) (hq : ∀ r M, Q r M → Q' r M) : Wp E d m pc ls st M Q' := by
  intro p e s mid args below meth c H locs js h1 h2 h3 h4 h5 h6 h7 T hT X
  obtain ⟨t, a, o, b1, b2, b3, b4⟩ := h p e s mid args below meth c H locs js h1 h2 h3 h4 h5 h6 h7 T hT X
  exact ⟨t, a, o, b1, b2, Qc.mono hq b3, b4⟩
/-! words by their links -/
theorem flk_at {q : Nat × Nat × Nat × Nat × Nat} (h : flk.any (fun z => decide (z.1 = q)) = true) : q.2.2.1 < 11 ∧ q.2.2.2.1 < nf q.2.2.1 ∧ (clsT q.2.2.1 q.2.2.2.1).1 = clsC q.2.2.1 ∧ fWord q ∈ lw_tbl := by
  obtain ⟨z, hz, e⟩ := List.any_eq_true.mp h
  have e := of_decide_eq_true e
  subst e
  have h1 := List.all_eq_true.mp flk_ok z hz
  simp only [okF, Bool.and_eq_true] at h1
  exact ⟨Nat.blt_eq.mp h1.1, Nat.blt_eq.mp h1.2.1, of_decide_eq_true h1.2.2.1, List.mem_of_getElem? (of_decide_eq_true h1.2.2.2)⟩
theorem mlk_at {q : Nat × Nat × Nat × Nat} (h : mlk.any (fun z => decide (z.1 = q)) = true) : q.2.2.1 < mCount ∧ mWord q ∈ lw_tbl := by
  obtain ⟨z, hz, e⟩ := List.any_eq_true.mp h
  have e := of_decide_eq_true e
  subst e
  have h1 := List.all_eq_true.mp mlk_ok z hz
  simp only [Bool.and_eq_true] at h1
  exact ⟨Nat.blt_eq.mp h1.1, List.mem_of_getElem? (of_decide_eq_true h1.2)⟩
theorem xlk_at {q : Nat × Nat × Nat} (h : xlk.any (fun z => decide (z.1 = q)) = true) : Cond.methodLink (cnm q.1) q.2.1 (xName q.2.2) ∈ lw_tbl := by
  obtain ⟨z, hz, e⟩ := List.any_eq_true.mp h
  have e := of_decide_eq_true e
  subst e
  have h1 := List.all_eq_true.mp xlk_ok z hz
  simp only [Bool.and_eq_true] at h1
  exact List.mem_of_getElem? (of_decide_eq_true h1.2)
theorem tw_in {w : Cond} (h : w ∈ lw_tbl) (g : goodWord w = true) : w ∈ TW := List.mem_filter.mpr ⟨h, g⟩
theorem nw_in {w : Cond} (h : w ∈ lw_tbl) (g : nestWord w = true) : w ∈ NWl := List.mem_filter.mpr ⟨h, g⟩
def okY (y : Nat) : Prop := (Cond.initialized (mN (mth y)).cls) ∈ TW ∧ (mSt (mth y) = 0 → Cond.instanceMethod (mN (mth y)) ∈ TW ∧ Cond.selects (mN (mth y)).cls (mN (mth y)) (mN (mth y)) ∈ TW) ∧ (¬ mSt (mth y) = 0 → Cond.static (mN (mth y)) ∈ TW) ∧ ((mN (mth y)).cls ≠ "java/lang/invoke/MethodHandle" ∧ (mN (mth y)).cls ≠ "java/lang/invoke/VarHandle" ∧ (parseMethodDescriptor (mN (mth y)).desc).map (fun d => d.parameters.length) = some (mNa (mth y))) ∧ plainName (mN (mth y)).cls = true ∧ mL (mth y) < 40 ∧ cnm (mO (mth y)) = (mN (mth y)).cls
theorem okY_all {y : Nat} (h : y < mCount) : okY y := by
  have h1 := List.all_eq_true.mp ylk_w y (List.mem_range.mpr h)
  simp only [okYw, Bool.and_eq_true] at h1
  obtain ⟨a1, a2, a3, a4, a5, a6, a7, a8⟩ := h1
  refine ⟨tw_mem _ (of_decide_eq_true a1) rfl, fun e => ?_, fun e => ?_, ⟨of_decide_eq_true a3, of_decide_eq_true a4, of_decide_eq_true a5⟩, a6, Nat.blt_eq.mp a7, of_decide_eq_true a8⟩
  · rw [e] at a2
    have a2 := Bool.and_eq_true_iff.mp (show (decide _ && decide _) = true from a2)
    exact ⟨tw_mem _ (of_decide_eq_true a2.1) rfl, tw_mem _ (of_decide_eq_true a2.2) rfl⟩
  · have hb : Nat.beq (mSt (mth y)) 0 = false := by
      cases hb : Nat.beq (mSt (mth y)) 0 with
      | false => rfl
      | true => exact absurd (Nat.beq_eq.mp hb) e
    rw [hb] at a2
    exact tw_mem _ (of_decide_eq_true a2) rfl
