/-! the law's case 38 -/
section LQ
variable {E : EV} {p : Program} {e : Env} {s : State} {m : MethodId} {below : List Frame} {meth : Method} {c : Code} {b o L nc ns i pc : Nat} {xs : Nat → Int32} {st : List Value} {M : Me} {fo : Nat → Int64} {js : Array Slot} {ex : List (Nat × Value)}
/-- the law's judgement with its locals kept -/
def Lq (E : EV) (p : Program) (e : Env) (s : State) (m : MethodId) (below : List Frame) (meth : Method) (c : Code) (b o : Nat) (nc ns : Nat) (js : Array Slot) (pc : Nat) (st : List Value) (M : Me) (fo : Nat → Int64) : Prop :=
  ∀ (H : Heap) (locs : List Loc), va_P (eG E) vwCl (wsE E M) H → va_P (eG E) vwCl [(o, outE E fo)] H → va_S (newA s) s.heap H locs → okMe M → W p (eL E) e room_1 s m #[.ref b] below meth c H locs nc ns (lw_Z below #[.ref b] s) (F0 m pc js st)
def bsl (E : EV) (b o i : Nat) : List (Nat × Value) := [(0, .ref b), (1, .ref (eA E 0 0)), (2, .ref (eA E 60 0)), (3, .ref o), (4, .int (nI i))]
theorem q_arg (X : LX E p s m meth c b L xs o) (hL : L ≤ 3072) (hl : lv_has js 7 (bsl E b o i ++ ex)) {k : Nat} (hk : k ≤ 5) (hi : i + k < L) (h : argOK pc k = true) (kk : Lq E p e s m below meth c b o nc ns js (pc + 6) (.int (xs (i + k)) :: st) M fo) : Lq E p e s m below meth c b o nc ns js pc st M fo := by
  simp only [argOK, Bool.and_eq_true] at h
  obtain ⟨d0, d1, d3, d4, d5⟩ := h
  obtain ⟨⟨x1, x2, x3, x4, x5, x6, x7, x8, x9, x10⟩, -, -, -, -⟩ := X
  intro H locs h1 h2 h3 h5
  refine lv_aload_n x1 x2 (isI_d d0) rfl (lv_at hl 0 rfl) ?_
  refine lv_iload x1 x2 (isI_d d1) (lv_at hl 4 rfl) ?_
  have ek : Int32.ofInt (k : Int) = nI k := by
    have : ∀ k, k ≤ 5 → Int32.ofInt ((k : Nat) : Int) = nI k := by decide
    exact this k hk
  refine lv_iconst x1 x2 (v := nI k) (isI_d d3) ek ?_
  refine lv_iadd x1 x2 (isI_d d4) ?_
  rw [nI_s8]
  refine va_sld x1 x2 x7 x8 (show ¬ newA s b from fun z => Nat.not_lt.mpr z x8) h3 (i := nI (i + k)) (vp_in_nI hi (by omega)) (isI_d d5) ?_
  rw [nI_clamp (show i + k < 2 ^ 31 by omega)]
  exact kk H locs h1 h2 h3 h5
/-- a call of the reference -/
theorem q_call (X : LX E p s m meth c b L xs o) (hjs : js.size = 7) {ix a q n : Nat} {as : List AV} {rest : List Value} {K : Option AV → Me → Prop} (hq : q = 0 ∨ q = 60) (hd : isI pc (.invokevirtual ix) 3 = true) (hy : a < mCount) (hw : Cond.methodLink (cnm 11) ix (mN (mth a)) ∈ TW) (hst : mSt (mth a) = 0) (hn : mNa (mth a) = n) (hcode : codeW (mth a) ∈ TW) (has : okSt as) (hlen : as.length = n) (hrc : rcvOK (mth a) (vP q 0) = true) (hcat : (rest.map fun v => v.category).sum ≤ 8)
    (hnc : nc ≤ 601024) (hns : ns ≤ 7293034) (hM : CallK E 41 (mth a) (vP q 0 :: as) M K)
    (kk : ∀ r M', K r M' → Lq E p e s m below meth c b o nc ns js (pc + 3) ((r.map (cv E)).toList ++ rest) M' fo) : Lq E p e s m below meth c b o nc ns js pc ((as.map (cv E)).reverse ++ .ref (eA E q 0) :: rest) M fo := by
  obtain ⟨y1, y2, y3, y4, y5, y6, y7⟩ := okY_all hy
  obtain ⟨⟨x1, x2, x3, x4, x5, x6, x7, x8, x9, x10⟩, hC, hAn, ho1, ho2⟩ := X
  obtain ⟨d', Q', hdd, hMt, himp⟩ := hM
  intro H locs hP hO hS o3
  have hrn : (0 : Nat) < rn q := by rcases hq with rfl | rfl <;> decide
  have hts : ∀ w ∈ TW, w.before #[Value.ref b] s = true := fun w hw => x6 w (List.mem_filter.mp hw).1
  have hM := hMt (okSt_cons (show okV (vP q 0) from hrn) has) o3
  have hG : GoodIn TW (codeW (mth a) :: TW) := good_code hcode
  have hCF : CallFix p m c code 7 s #[Value.ref b] TW (cnm 11) := ⟨x1, x2, x4, x5, hts⟩
  have hpre : ∀ U : State, U.heap = H → s.WarmedH U.vm → Pcm E (vP q 0 :: as) M ((vP q 0 :: as).map (cv E)).toArray U := fun U hU hW => ⟨rfl, CK_warm hC hW (fun a h1 h2 => by rw [hU]; exact hS.2.1 a h1 (fun z => Nat.not_lt.mpr z h1)), by rw [hU]; exact hP⟩
  have hrcv : ∃ cellB : Cell, H[eA E q 0]? = some cellB ∧ cellB.vm.isStatics = false ∧ s.vm.findClass (mN (mth a)).cls = some cellB.cls := by
    simp only [rcvOK, Bool.or_eq_true, Bool.and_eq_true] at hrc
    rcases hrc with ⟨h1, h2⟩ | ⟨h1, h2, h3, h4⟩
    · have h1 := Nat.beq_eq.mp h1
      have h2 := Nat.beq_eq.mp h2
      have hc := lay_cls h1
      obtain ⟨q0, -, hq⟩ := wsE_at E M (ly_lt (by rw [h1]; decide)) hrn
      rw [cell_obj h1] at hq
      have h5 := va_recv hC.2.1 hP (cls_at _ hc) hq
      rw [← y7, ← h2, cnm_cls _ hc]
      exact h5
    · have := Nat.le_of_ble_eq_true h2
      omega
  have hr := va_runV (R := room_1) (H := H) (locs := locs) (cells := nc) (slots := ns) (meth := meth) (below := below) (e := e) (g := F0 m pc js ((as.map (cv E)).reverse ++ .ref (eA E q 0) :: rest)) (rest := rest) (b := eA E q 0) (As := as.map (cv E)) (C := (mN (mth a)).cls) hCF hM ⟨callB_of (mNa (mth a)) hts hG rfl rfl rfl (hts _ y1) (hts _ hw) y4 (room1_ok hdd y6), hts _ (y2 hst).1, hts _ (y2 hst).2⟩ ⟨blind, hrcv, hpre⟩ rfl (by rw [List.length_map, hlen, hn]) hjs rfl (lv_room hcat) (isI_d hd) ⟨hnc, hns⟩
  intro T hT Y
  obtain ⟨v, st₀, t, T', L', h0, X', hL', e1, e2, ⟨⟨r, M', hv, hq', hm, hr', hp⟩, hz, hkk⟩, stp⟩ := hr T hT Y
  cases hv
  rw [h0] at hz hkk
  have hO' : va_P (eG E) vwCl [(o, outE E fo)] T'.heap := by
    refine hO.kept (fun k x hx => ?_)
    have hx1 : x.1 = o := by
      cases k with
      | zero => cases hx; rfl
      | succ k => cases hx
    rw [e1, hkk x.1 ((hO k x hx).lt) (by rw [hx1]; exact ho2)]
  obtain ⟨t2, a1, b1⟩ := kk r M' (himp r M' hq') T'.heap (locs ++ L') (by rw [e1]; exact hp) hO'
    ⟨Nat.le_trans hS.1 (by rw [e1]; exact hz), fun z h1 h2 => by rw [e1, hkk z (Nat.lt_of_lt_of_le h1 hS.1) (fun w => h2 (hAn z w))]; exact hS.2.1 z h1 h2, fun z hz' => by
      rcases List.mem_append.mp hz' with h | h
      · exact hS.2.2 z h
      · exact hAn _ (hL' z h)⟩ hm T' rfl X'
  exact ⟨t2, stp t2 a1, b1⟩
theorem lt_90 : Cond.initialized "ChannelSqueezeLaw" ∈ TW := tw_mem 91 (by decide +kernel) rfl
theorem lt_good : GoodIn TW (va_wsS "ChannelSqueezeLaw" 178 yLl (cwL :: TW)) := by
  intro w hw
  refine tw_good w ?_
  rcases List.mem_append.mp hw with h | h
  · simp only [List.mem_cons, List.not_mem_nil, or_false] at h
    rcases h with rfl | rfl | rfl
    · exact lt_1074
    · exact lt_1075
    · exact lt_90
  · rcases List.mem_cons.mp h with rfl | h
    · exact lt_1076
    · exact h
theorem lt_cmp {a b : Int64} (h : a = b) : lg_cmp a b = 0 := by subst h; unfold lg_cmp; simp [Int64.lt_irrefl]
/-- behind the call of the law's own letter -/
theorem q_rest (X : LX E p s m meth c b L xs o) (hL : L ≤ 3072) (hi : i + 6 ≤ L) (hnc : nc ≤ 601024) (hns : ns ≤ 7293034) {t : Nat} (ht : t + 1 < 2000) (hW : WI M t) {r : Int32} (hl : lv_has js 7 (bsl E b o i ++ [(5, .int r)]))
    (hr : (ltC M (xs (i + 1)) (xs (i + 2)) = true ∧ r = nI 0 ∧ fo 0 = (ltW M (xs (i + 1)) (xs (i + 2))).toInt64) ∨ (ltC M (xs (i + 1)) (xs (i + 2)) = false ∧ r = nI 1)) (next : ∀ M2 fo2, WI M2 (t + 1) → Lp E p e s m below meth c b o nc ns i 1664 [] M2 fo2) : Lq E p e s m below meth c b o nc ns js 1589 [] M fo := by
  obtain ⟨x1, x2, x3, x4, x5, x6, x7, x8, x9, x10⟩ := X.1
  obtain ⟨u1, u2⟩ := lt_same hW (xs (i + 1)) (xs (i + 2))
  have hC : CI M := WI_CI hW
  -- behind both calls of the reference
  have fin : ∀ (M2 : Me) (v th : Int32), WI M2 (t + 1) → th = r → (r = nI 0 → fo 0 = v.toInt64) → ∀ js2, lv_has js2 7 (bsl E b o i ++ [(5, .int r), (6, .int v)]) → Lq E p e s m below meth c b o nc ns js2 1611 [.int th] M2 fo := by
    rintro M2 v th hW2 rfl hv js2 hl2 H locs h1 h2 h3 h5
    have hb : lv_has js2 7 (bsl E b o i) := ⟨hl2.1, hl2.2.1, fun q hq => hl2.2.2 q (List.mem_append_left _ hq)⟩
    refine lv_iload x1 x2 (isI_d (show isI 1611 (.iload 5) 2 = true by decide +kernel)) (lv_at hl2 5 rfl) ?_
    refine lv_icmp_eq x1 x2 (tgt := 1618) (isI_d (show isI 1613 (.if_icmp .eq 5) 3 = true by decide +kernel)) rfl (fun _ => ?_) (fun z => absurd rfl z)
    refine lv_iload x1 x2 (isI_d (show isI 1618 (.iload 5) 2 = true by decide +kernel)) (lv_at hl2 5 rfl) ?_
    have out : ∀ H locs, va_P (eG E) vwCl (wsE E M2) H → va_P (eG E) vwCl [(o, outE E fo)] H → va_S (newA s) s.heap H locs → W p (eL E) e room_1 s m #[.ref b] below meth c H locs nc ns (lw_Z below #[.ref b] s) (F0 m 1635 js2 []) := by
      intro H locs h1 h2 h3
      refine lv_goto x1 x2 (tgt := 1664) (isI_d (show isI 1635 (.goto 29) 3 = true by decide +kernel)) rfl ?_
      exact next M2 fo hW2 H locs js2 h1 h2 h3 hb h5
    refine lv_if_ne x1 x2 (tgt := 1635) (isI_d (show isI 1620 (.ifCond .ne 15) 3 = true by decide +kernel)) rfl (fun _ => out H locs h1 h2 h3) (fun z => ?_)
    have z0 : th = nI 0 := z
    refine lv_aload_n x1 x2 (isI_d (show isI 1623 (.aload_n 3) 1 = true by decide +kernel)) rfl (lv_at hl2 3 rfl) ?_
    refine lv_iconst x1 x2 (v := nI 0) (isI_d (show isI 1624 (.iconst 0) 1 = true by decide +kernel)) (by decide) ?_
    refine va_lald (f := fo) (i := nI 0) (ws := [(o, outE E fo)]) x1 x2 X.2.1.2.1 h2 0 3 rfl rfl (vp_in_nI (show 0 < 1 by omega) (by omega)) (isI_d (show isI 1625 .laload 1 = true by decide +kernel)) ?_
    refine lv_iload x1 x2 (isI_d (show isI 1626 (.iload 6) 2 = true by decide +kernel)) (lv_at hl2 6 rfl) ?_
    refine lv_i2l x1 x2 (isI_d (show isI 1628 .i2l 1 = true by decide +kernel)) rfl ?_
    refine W.lcmp x1 x2 (isI_d (show isI 1629 .lcmp 1 = true by decide +kernel)) ?_
    rw [lt_cmp (show fo (nI 0).toNatClampNeg = v.toInt64 from hv z0)]
    exact lv_if_eq x1 x2 (tgt := 1635) (isI_d (show isI 1630 (.ifCond .eq 5) 3 = true by decide +kernel)) rfl (fun _ => out H locs h1 h2 h3) (fun z => absurd rfl z)
  -- behind the reference's letter
  have mid : ∀ (M1 : Me) (v th : Int32), WI M1 (t + 1) → M1.1 60 0 0 = th → th = r → (r = nI 0 → fo 0 = v.toInt64) → Lq E p e s m below meth c b o nc ns js 1605 [.int v] M1 fo := by
    intro M1 v th hW1 h60 hth hv H locs h1 h2 h3 h5
    refine lv_istore x1 x2 (isI_d (show isI 1605 (.istore 6) 2 = true by decide +kernel)) hl (by omega) rfl (fun js2 hl2 => ?_)
    have hl2 : lv_has js2 7 (bsl E b o i ++ [(5, .int r), (6, .int v)]) := by
      have hl3 : lv_has js2 7 ((6, .int v) :: (bsl E b o i ++ [(5, .int r)])) := hl2
      refine ⟨hl3.1, hl3.2.1, fun q hq => hl3.2.2 q ?_⟩
      simp only [bsl, List.cons_append, List.nil_append, List.mem_cons, List.not_mem_nil, or_false] at hq ⊢
      rcases hq with h | h | h | h | h | h | h <;> simp [h]
    refine lv_aload_n x1 x2 (isI_d (show isI 1607 (.aload_n 2) 1 = true by decide +kernel)) rfl (lv_at hl2 2 rfl) ?_
    have hcall := q_call (nc := nc) (ns := ns) (e := e) (below := below) (M := M1) (fo := fo) (js := js2) X hl2.1 (pc := 1608) (ix := 184) (a := 127) (n := 0) (as := []) (rest := []) (q := 60) (Or.inr rfl) (by decide +kernel) (by decide +kernel) (tw_mem 1304 (by decide +kernel) rfl) rfl rfl ok_Mo_thrown.1 (fun v hv => by cases hv) rfl (by decide +kernel) (Nat.zero_le _) hnc hns (K := fun r M' => r = some (vI th) ∧ M' = M1) (CallK.mk 0 (by omega) (r_thrown E 0 M1) (fun r M' q => ⟨by rw [q.1, h60], q.2⟩)) (by
      rintro r9 M9 ⟨rfl, rfl⟩
      exact fin M9 v th hW1 hth hv js2 hl2)
    exact hcall H locs h1 h2 h3 h5
  intro H locs h1 h2 h3 h5
  refine lv_aload_n x1 x2 (isI_d (show isI 1589 (.aload_n 2) 1 = true by decide +kernel)) rfl (lv_at hl 2 rfl) ?_
  refine q_arg X hL hl (k := 1) (by omega) (by omega) (pc := 1590) (by decide +kernel) (q_arg X hL hl (k := 2) (by omega) (by omega) (pc := 1596) (by decide +kernel) ?_) H locs h1 h2 h3 h5
  refine q_call (nc := nc) (ns := ns) (e := e) (below := below) (M := M) (fo := fo) (js := js) X hl.1 (pc := 1602) (ix := 183) (a := 220) (n := 2) (as := [vI (xs (i + 1)), vI (xs (i + 2))]) (rest := []) (q := 60) (Or.inr rfl) (by decide +kernel) (by decide +kernel) (tw_mem 1684 (by decide +kernel) rfl) rfl rfl ok_Mo_letter.1 (okSt_cons trivial (okSt_cons trivial (fun v hv => by cases hv))) rfl (by decide +kernel) (Nat.zero_le _) hnc hns (CallK.mk 2 (by omega) (r_letter E 0 M hC.1 (WI_RNm hW) (xs (i + 1)) (xs (i + 2))) (fun r M' q => q)) ?_
  rintro r9 M9 (⟨q1, rfl, rfl⟩ | ⟨q1, rfl, rfl⟩)
  · rw [u1] at q1
    rcases hr with ⟨z, -, -⟩ | ⟨-, z⟩
    · rw [z] at q1; cases q1
    · refine mid _ (nI 0) (nI 1) (WI_up (show WI (sI (M0 M) 60 0 0 (nI 1)) t from hW) ht) rfl z.symm (fun w => ?_)
      rw [z] at w
      exact absurd w (by decide)
  · rw [u1] at q1
    rcases hr with ⟨-, z, z2⟩ | ⟨z, -⟩
    · refine mid _ _ (nI 0) (WI_up (show WI (M0 M) t from hW) ht) rfl z.symm (fun _ => ?_)
      rw [z2, u2 q1]
    · rw [z] at q1; cases q1
theorem let_ok (X : LX E p s m meth c b L xs o) (hT : TK E s) (hst : (eL E).stackTraces = false) (hL : L ≤ 3072) {C0 S0 : Nat} : LetOK E p e s m below meth c b o L C0 S0 := by
  intro t i M fo hi ht hc9 hs9 hW next
  obtain ⟨x1, x2, x3, x4, x5, x6, x7, x8, x9, x10⟩ := X.1
  have Xc := X
  obtain ⟨-, hC, hAn, ho1, ho2⟩ := Xc
  have hts : ∀ w ∈ TW, w.before #[Value.ref b] s = true := fun w hw => x6 w (List.mem_filter.mp hw).1
  refine l_al1 X (by decide +kernel) ?_
  refine l_args X hL hi 2 1571 1 _ (by omega) (by decide +kernel) ?_
  intro H locs js hP hO hS hl o3
  refine lv_aload_n x1 x2 (isI_d (show isI 1583 (.aload_n 3) 1 = true by decide +kernel)) rfl (lv_at hl 3 rfl) ?_
  have hN : ∀ s, s < sN M → ∃ k, k ≤ 8 ∧ M.1 45 (pl M) s = nI k := fun s hs => by
    obtain ⟨-, w, l, h1, h2, h3, h4⟩ := hW.1.1.2.2.2.2 s hs
    exact ⟨l, h1, h3⟩
  have hCF : CallFix p m c code 7 s #[Value.ref b] TW "ChannelSqueezeLaw" := ⟨x1, x2, x4, x5, hts⟩
  have hr := vx_runSW (l := eL E) (R := room_1) (H := H) (locs := locs) (cells := C0 + t) (slots := S0 + 8 * t) (meth := meth) (below := below) (e := e) (g := F0 m 1584 js [.ref o, .int (xs (i + 2)), .int (xs (i + 1)), .ref (eA E 0 0)]) (rest := []) (As := [.ref (eA E 0 0), .int (xs (i + 1)), .int (xs (i + 2)), .ref o]) hCF (x_own E 0 M hst (WI_CI hW) hN o3 (xs (i + 1)) (xs (i + 2)) o fo ho2)
    (vx_cwSW 4 hts lt_good rfl rfl rfl (by decide +kernel) ⟨show 7 + 1 ≤ 2048 by omega, show 8 + (5 + 11) + 64 * 7 ≤ 84000 by omega⟩)
    ⟨blindo, fun U hU hW => ⟨rfl, ⟨CK_warm hC hW (fun a h1 h2 => by rw [hU]; exact hS.2.1 a h1 (fun z => Nat.not_lt.mpr z h1)), TK_warm hT hW (fun a h1 h2 => by rw [hU]; exact hS.2.1 a h1 (fun z => Nat.not_lt.mpr z h1))⟩, by rw [hU]; exact hP, by rw [hU]; exact hO⟩⟩ rfl rfl hl.1 rfl (lv_room (Nat.zero_le _)) (isI_d (show isI 1584 (.invokestatic 178) 3 = true by decide +kernel)) ⟨show C0 + t + 1 ≤ 601024 by omega, show S0 + 8 * t + 6 ≤ 7293034 by omega⟩
  intro T hT' Y
  obtain ⟨v, st₀, t', T', L', h0, X', hL', e1, e2, ⟨⟨r, fo', hv, hr', hp, ho'⟩, hz, hkk⟩, stp⟩ := hr T hT' Y
  cases hv
  rw [h0] at hz hkk
  have kk : W p (eL E) e room_1 s m #[.ref b] below meth c T'.heap (locs ++ L') (C0 + t + 1) (S0 + 8 * t + 6) (lw_Z below #[.ref b] s) (F0 m 1587 js [.int r]) := by
    refine W.widen (k := C0 + t + 1) (n := S0 + 8 * t + 8) (Nat.le_refl _) (by omega) ?_
    refine lv_istore x1 x2 (isI_d (show isI 1587 (.istore 5) 2 = true by decide +kernel)) hl (by omega) rfl (fun js2 hl2 => ?_)
    have hl2 : lv_has js2 7 (bsl E b o i ++ [(5, .int r)]) := by
      have hl3 : lv_has js2 7 ((5, .int r) :: bsl E b o i) := hl2
      refine ⟨hl3.1, hl3.2.1, fun q hq => hl3.2.2 q ?_⟩
      simp only [bsl, List.cons_append, List.nil_append, List.mem_cons, List.not_mem_nil, or_false] at hq ⊢
      rcases hq with h | h | h | h | h | h <;> simp [h]
    refine q_rest X hL hi (by omega) (by omega) ht hW hl2 hr' next T'.heap (locs ++ L') (by rw [e1]; exact hp) (by rw [e1]; exact ho') ⟨Nat.le_trans hS.1 (by rw [e1]; exact hz), fun z h1 h2 => ?_, fun z hz' => ?_⟩ o3
    · rw [e1, hkk z (Nat.lt_of_lt_of_le h1 hS.1) (fun w => h2 (w.elim (hAn z) (fun w => by rw [w]; exact ho1)))]
      exact hS.2.1 z h1 h2
    · rcases List.mem_append.mp hz' with h | h
      · exact hS.2.2 z h
      · exact (hL' z h).elim (hAn _) (fun w => by rw [w]; exact ho1)
  obtain ⟨t2, a1, b1⟩ := kk T' rfl X'
  exact ⟨t2, stp t2 a1, b1⟩
end LQ
