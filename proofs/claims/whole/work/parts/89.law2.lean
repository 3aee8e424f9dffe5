/-! the law's walk: its frame, the script, calls of both -/
def lwD (pc : Nat) : Option (Instr × Nat) := (lwL.find? (fun q => Nat.beq q.1 pc)).map (fun q => q.2)
theorem lwdec {pc : Nat} {ins : Instr} {len : Nat} (h : lwD pc = some (ins, len)) : decode code pc = .ok (ins, len) := by
  unfold lwD at h
  cases hf : lwL.find? (fun q => Nat.beq q.1 pc) with
  | none => rw [hf] at h; cases h
  | some q =>
    rw [hf] at h
    have h1 := List.all_eq_true.mp lwc q (List.mem_of_find?_eq_some hf)
    have h2 : Nat.beq q.1 pc = true := List.find?_some (p := fun q : Nat × Instr × Nat => Nat.beq q.1 pc) hf
    have h2 := Nat.beq_eq.mp h2
    have h1 := of_decide_eq_true h1
    rw [h2] at h1
    have h3 : q.2 = (ins, len) := Option.some.inj h
    rw [h3] at h1
    exact h1
def isI (pc : Nat) (ins : Instr) (len : Nat) : Bool := decide (lwD pc = some (ins, len))
theorem isI_d {pc : Nat} {ins : Instr} {len : Nat} (h : isI pc ins len = true) : decode code pc = .ok (ins, len) := lwdec (of_decide_eq_true h)
def lw_Q (_ : Array Value) (s : State) (o : Outcome) (t : State) : Prop := o = .returned (some (.int 1)) ∧ Framed s o t [] 601024 7293034
def lw_Z (below : List Frame) (a : Array Value) (s : State) : State → Prop := fun t => ∃ o, t.status = .running ∧ Ended t below o ∧ lw_Q a s o t
def R_law : String := "ChannelSqueezeLaw"
def lw_At (p : Program) (s : State) (m : MethodId) (meth : Method) (c : Code) (b L : Nat) (xs : Nat → Int32) : Prop :=
  p.tables.exec = Jvm.exec ∧ c.code = code ∧ meth.sig.returnType = ret ∧ c.maxLocals = 7 ∧ s.vm.findClass R_law = some m.cls ∧ (∀ w ∈ lw_tbl, w.before #[Value.ref b] s = true) ∧ va_X b L xs s s.heap ∧ b < s.heap.size ∧ meth.locks = false ∧ (Jvm.Cond.and given_1 narrow_1).before #[Value.ref b] s = true
/-- the law's surroundings: its entry, both made -/
def LX (E : EV) (p : Program) (s : State) (m : MethodId) (meth : Method) (c : Code) (b L : Nat) (xs : Nat → Int32) (o : Nat) : Prop := lw_At p s m meth c b L xs ∧ CK E s ∧ (∀ q, AA E q → s.heap.size ≤ q) ∧ s.heap.size ≤ o ∧ ¬ AA E o
def outE (E : EV) (fo : Nat → Int64) : va_E := .inl (eJ E, 1, .inr (.inl fo))
def newA (s : State) : Nat → Prop := fun q => s.heap.size ≤ q
def Lp (E : EV) (p : Program) (e : Env) (s : State) (m : MethodId) (below : List Frame) (meth : Method) (c : Code) (b o : Nat) (nc ns : Nat) (i pc : Nat) (st : List Value) (M : Me) (fo : Nat → Int64) : Prop :=
  ∀ (H : Heap) (locs : List Loc) (js : Array Slot), va_P (eG E) vwCl (wsE E M) H → va_P (eG E) vwCl [(o, outE E fo)] H → va_S (newA s) s.heap H locs → lv_has js 7 [(0, .ref b), (1, .ref (eA E 0 0)), (2, .ref (eA E 60 0)), (3, .ref o), (4, .int (nI i))] → okMe M → W p (eL E) e room_1 s m #[.ref b] below meth c H locs nc ns (lw_Z below #[.ref b] s) (F0 m pc js st)
theorem room1_ok {d' n : Nat} (h : d' < 41) (hn : n < 40) : (rmd d').frames + 1 ≤ room_1.frames ∧ 8 + (n + 11) + (rmd d').locals ≤ room_1.locals := by
  refine ⟨show d' + 1 ≤ 2048 by omega, ?_⟩
  show 8 + (n + 11) + 64 * d' ≤ 84000
  omega
section LW
variable {E : EV} {p : Program} {e : Env} {s : State} {m : MethodId} {below : List Frame} {meth : Method} {c : Code} {b o L nc ns i pc : Nat} {xs : Nat → Int32} {st : List Value} {M : Me} {fo : Nat → Int64}
theorem l_al0 (X : LX E p s m meth c b L xs o) (hd : isI pc (.aload_n 0) 1 = true) (k : Lp E p e s m below meth c b o nc ns i (pc + 1) (.ref b :: st) M fo) : Lp E p e s m below meth c b o nc ns i pc st M fo := by
  intro H locs js h1 h2 h3 hl h5
  exact lv_aload_n X.1.1 X.1.2.1 (isI_d hd) rfl (lv_at hl 0 rfl) (k H locs js h1 h2 h3 hl h5)
theorem l_al1 (X : LX E p s m meth c b L xs o) (hd : isI pc (.aload_n 1) 1 = true) (k : Lp E p e s m below meth c b o nc ns i (pc + 1) (.ref (eA E 0 0) :: st) M fo) : Lp E p e s m below meth c b o nc ns i pc st M fo := by
  intro H locs js h1 h2 h3 hl h5
  exact lv_aload_n X.1.1 X.1.2.1 (isI_d hd) rfl (lv_at hl 1 rfl) (k H locs js h1 h2 h3 hl h5)
theorem l_al2 (X : LX E p s m meth c b L xs o) (hd : isI pc (.aload_n 2) 1 = true) (k : Lp E p e s m below meth c b o nc ns i (pc + 1) (.ref (eA E 60 0) :: st) M fo) : Lp E p e s m below meth c b o nc ns i pc st M fo := by
  intro H locs js h1 h2 h3 hl h5
  exact lv_aload_n X.1.1 X.1.2.1 (isI_d hd) rfl (lv_at hl 2 rfl) (k H locs js h1 h2 h3 hl h5)
def argOK (pc k : Nat) : Bool := isI pc (.aload_n 0) 1 && (isI (pc + 1) (.iload 4) 2 && (isI (pc + 3) (.iconst k) 1 && (isI (pc + 4) .iadd 1 && isI (pc + 5) .iaload 1)))
/-- an int of the script, behind its place -/
theorem l_arg (X : LX E p s m meth c b L xs o) (hL : L ≤ 3072) {k : Nat} (hk : k ≤ 5) (hi : i + k < L) (h : argOK pc k = true) (kk : Lp E p e s m below meth c b o nc ns i (pc + 6) (.int (xs (i + k)) :: st) M fo) : Lp E p e s m below meth c b o nc ns i pc st M fo := by
  simp only [argOK, Bool.and_eq_true] at h
  obtain ⟨d0, d1, d3, d4, d5⟩ := h
  obtain ⟨⟨x1, x2, x3, x4, x5, x6, x7, x8, x9, x10⟩, -, -, -, -⟩ := X
  intro H locs js h1 h2 h3 hl h5
  refine lv_aload_n x1 x2 (isI_d d0) rfl (lv_at hl 0 rfl) ?_
  refine lv_iload x1 x2 (isI_d d1) (lv_at hl 4 rfl) ?_
  have ek : Int32.ofInt (k : Int) = nI k := by
    have : ∀ k, k ≤ 5 → Int32.ofInt ((k : Nat) : Int) = nI k := by decide
    exact this k hk
  refine lv_iconst x1 x2 (v := nI k) (isI_d d3) ek ?_
  refine lv_iadd x1 x2 (isI_d d4) ?_
  rw [nI_s8]
  refine va_sld x1 x2 x7 x8 (show ¬ newA s b from fun z => Nat.not_lt.mpr z x8) h3 (i := nI (i + k)) (vp_in_nI hi (by omega)) (isI_d d5) ?_
  rw [nI_clamp (show i + k < 2 ^ 31 by omega)]
  exact kk H locs js h1 h2 h3 hl h5
def argsOK : Nat → Nat → Nat → Bool
  | _, _, 0 => true
  | pc, k, n + 1 => argOK pc k && argsOK (pc + 6) (k + 1) n
def pushA (xs : Nat → Int32) (i : Nat) : Nat → Nat → List Value → List Value
  | _, 0, st => st
  | k, n + 1, st => pushA xs i (k + 1) n (.int (xs (i + k)) :: st)
def argA (xs : Nat → Int32) (i : Nat) : Nat → Nat → List AV
  | _, 0 => []
  | k, n + 1 => vI (xs (i + k)) :: argA xs i (k + 1) n
theorem pushA_eq (E : EV) (xs : Nat → Int32) (i : Nat) : ∀ (n k : Nat) (st : List Value), pushA xs i k n st = ((argA xs i k n).map (cv E)).reverse ++ st
  | 0, _, _ => rfl
  | n + 1, k, st => by
    rw [pushA, pushA_eq E xs i n (k + 1), argA, List.map_cons, List.reverse_cons, List.append_assoc]
    rfl
theorem argA_ok (xs : Nat → Int32) (i : Nat) : ∀ (n k : Nat), okSt (argA xs i k n)
  | 0, _ => fun v hv => by cases hv
  | n + 1, k => okSt_cons trivial (argA_ok xs i n (k + 1))
theorem argA_len (xs : Nat → Int32) (i : Nat) : ∀ (n k : Nat), (argA xs i k n).length = n
  | 0, _ => rfl
  | n + 1, k => by rw [argA, List.length_cons, argA_len xs i n (k + 1)]
theorem l_args (X : LX E p s m meth c b L xs o) (hL : L ≤ 3072) (hi : i + 6 ≤ L) : ∀ (n pc k : Nat) (st : List Value), k + n ≤ 6 → argsOK pc k n = true → Lp E p e s m below meth c b o nc ns i (pc + 6 * n) (pushA xs i k n st) M fo → Lp E p e s m below meth c b o nc ns i pc st M fo
  | 0, pc, k, st, _, _, h => h
  | n + 1, pc, k, st, hk, ha, h => by
    rw [argsOK, Bool.and_eq_true] at ha
    refine l_arg X hL (k := k) (by omega) (by omega) ha.1 ?_
    refine l_args X hL hi n (pc + 6) (k + 1) _ (by omega) ha.2 ?_
    rw [pushA, show pc + 6 * (n + 1) = pc + 6 + 6 * n by omega] at h
    exact h
/-- a call of either object -/
theorem l_call (X : LX E p s m meth c b L xs o) {ix a q n : Nat} {as : List AV} {rest : List Value} {K : Option AV → Me → Prop} (hq : q = 0 ∨ q = 60) (hd : isI pc (.invokevirtual ix) 3 = true) (hy : a < mCount) (hw : Cond.methodLink (cnm 11) ix (mN (mth a)) ∈ TW) (hst : mSt (mth a) = 0) (hn : mNa (mth a) = n) (hcode : codeW (mth a) ∈ TW) (has : okSt as) (hlen : as.length = n) (hrc : rcvOK (mth a) (vP q 0) = true) (hcat : (rest.map fun v => v.category).sum ≤ 8)
    (hnc : nc ≤ 601024) (hns : ns ≤ 7293034) (hM : CallK E 41 (mth a) (vP q 0 :: as) M K)
    (kk : ∀ r M', K r M' → Lp E p e s m below meth c b o nc ns i (pc + 3) ((r.map (cv E)).toList ++ rest) M' fo) : Lp E p e s m below meth c b o nc ns i pc ((as.map (cv E)).reverse ++ .ref (eA E q 0) :: rest) M fo := by
  obtain ⟨y1, y2, y3, y4, y5, y6, y7⟩ := okY_all hy
  obtain ⟨⟨x1, x2, x3, x4, x5, x6, x7, x8, x9, x10⟩, hC, hAn, ho1, ho2⟩ := X
  obtain ⟨d', Q', hdd, hMt, himp⟩ := hM
  intro H locs js hP hO hS hl o3
  have hrn : (0 : Nat) < rn q := by rcases hq with rfl | rfl <;> decide
  have hts : ∀ w ∈ TW, w.before #[Value.ref b] s = true := fun w hw => x6 w (List.mem_filter.mp hw).1
  have hM := hMt (okSt_cons (show okV (vP q 0) from hrn) has) o3
  have hG : GoodIn TW (codeW (mth a) :: TW) := good_code hcode
  have hCF : CallFix p m c code 7 s #[Value.ref b] TW (cnm 11) := ⟨x1, x2, x4, x5, hts⟩
  have hpre : ∀ U : State, U.heap = H → s.WarmedH U.vm → Pcm E (vP q 0 :: as) M ((vP q 0 :: as).map (cv E)).toArray U := fun U hU hW => ⟨rfl, CK_warm hC hW (fun a h1 h2 => by rw [hU]; exact hS.2.1 a h1 (fun z => Nat.not_lt.mpr z h1)), by rw [hU]; exact hP⟩
  have hrcv : ∃ cellB : Cell, H[eA E q 0]? = some cellB ∧ cellB.vm.isStatics = false ∧ s.vm.findClass (mN (mth a)).cls = some cellB.cls := by
    simp only [rcvOK, Bool.or_eq_true, Bool.and_eq_true] at hrc
    rcases hrc with ⟨h1, h2⟩ | ⟨h1, h2, h3, h4⟩
    · have h1 := Nat.beq_eq.mp h1
      have h2 := Nat.beq_eq.mp h2
      have hc := lay_cls h1
      obtain ⟨q0, -, hq⟩ := wsE_at E M (ly_lt (by rw [h1]; decide)) hrn
      rw [cell_obj h1] at hq
      have h5 := va_recv hC.2.1 hP (cls_at _ hc) hq
      rw [← y7, ← h2, cnm_cls _ hc]
      exact h5
    · have := Nat.le_of_ble_eq_true h2
      omega
  have hr := va_runV (R := room_1) (H := H) (locs := locs) (cells := nc) (slots := ns) (meth := meth) (below := below) (e := e) (g := F0 m pc js ((as.map (cv E)).reverse ++ .ref (eA E q 0) :: rest)) (rest := rest) (b := eA E q 0) (As := as.map (cv E)) (C := (mN (mth a)).cls) hCF hM ⟨callB_of (mNa (mth a)) hts hG rfl rfl rfl (hts _ y1) (hts _ hw) y4 (room1_ok hdd y6), hts _ (y2 hst).1, hts _ (y2 hst).2⟩ ⟨blind, hrcv, hpre⟩ rfl (by rw [List.length_map, hlen, hn]) hl.1 rfl (lv_room hcat) (isI_d hd) ⟨hnc, hns⟩
  intro T hT Y
  obtain ⟨v, st₀, t, T', L', h0, X', hL', e1, e2, ⟨⟨r, M', hv, hq', hm, hr', hp⟩, hz, hkk⟩, stp⟩ := hr T hT Y
  cases hv
  rw [h0] at hz hkk
  have hO' : va_P (eG E) vwCl [(o, outE E fo)] T'.heap := by
    refine hO.kept (fun k x hx => ?_)
    have hx1 : x.1 = o := by
      cases k with
      | zero => cases hx; rfl
      | succ k => cases hx
    rw [e1, hkk x.1 ((hO k x hx).lt) (by rw [hx1]; exact ho2)]
  obtain ⟨t2, a1, b1⟩ := kk r M' (himp r M' hq') T'.heap (locs ++ L') js (by rw [e1]; exact hp) hO'
    ⟨Nat.le_trans hS.1 (by rw [e1]; exact hz), fun z h1 h2 => by rw [e1, hkk z (Nat.lt_of_lt_of_le h1 hS.1) (fun w => h2 (hAn z w))]; exact hS.2.1 z h1 h2, fun z hz' => by
      rcases List.mem_append.mp hz' with h | h
      · exact hS.2.2 z h
      · exact hAn _ (hL' z h)⟩ hl hm T' rfl X'
  exact ⟨t2, stp t2 a1, b1⟩
end LW
