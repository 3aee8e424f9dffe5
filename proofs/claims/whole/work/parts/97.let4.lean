/-! letters of a name; the law's own letter -/
theorem lN_nat {n : Nat} (h : n < 2 ^ 63) : (lN n).toNatClampNeg = n := by
  show (Int64.ofNat n).toInt.toNat = _
  rw [Int64.toInt_ofNat_of_lt h]
  rfl
theorem lw_wd {w : Nat → Nat} : ∀ (l f : Nat), l ≤ f → (∀ i, i < l → 97 ≤ w i ∧ w i ≤ 122) → lw f (wdV w l) = l
  | 0, 0, _, _ => rfl
  | 0, f + 1, _, _ => by rw [lw, wdV, if_pos rfl]
  | l + 1, 0, h, _ => absurd h (by omega)
  | l + 1, f + 1, h, hw => by
    have h1 := hw l (by omega)
    rw [lw, wdV, if_neg (by omega), show (wdV w l * 32 + (w l - 96)) / 32 = wdV w l by omega, lw_wd l f (by omega) (fun i hi => hw i (by omega))]
theorem wd_dig {w : Nat → Nat} : ∀ (l i : Nat), i < l → (∀ i, i < l → 97 ≤ w i ∧ w i ≤ 122) → wdV w l / 32 ^ (l - 1 - i) % 32 = w i - 96
  | 0, i, h, _ => absurd h (by omega)
  | l + 1, i, h, hw => by
    have h1 := hw l (by omega)
    rcases Nat.eq_or_lt_of_le (Nat.le_of_lt_succ h) with e | e
    · subst e
      rw [show i + 1 - 1 - i = 0 by omega, Nat.pow_zero, Nat.div_one, wdV]
      omega
    · rw [show l + 1 - 1 - i = l - 1 - i + 1 by omega, Nat.pow_succ', ← Nat.div_div_eq_div_mul, wdV, show (wdV w l * 32 + (w l - 96)) / 32 = wdV w l by omega]
      exact wd_dig l i e (fun i hi => hw i (by omega))
theorem WI_RNm {M : Me} {n : Nat} (h : WI M n) : RNm M := by
  intro s hs
  obtain ⟨-, w, l, h1, h2, h3, h4⟩ := h.1.1.2.2.2.2 s hs
  have h5 : wdV w l < 32 ^ 8 := Nat.lt_of_lt_of_le (wdV_lt l (fun i hi => (h2 i hi).2.2)) (Nat.pow_le_pow_right (by omega) h1)
  have h6 : nmN M s = wdV w l := by unfold nmN; rw [h4, lN_nat (Nat.lt_of_lt_of_le h5 (by decide))]
  rw [h6]
  exact ⟨h4, h5⟩
theorem lt_k {l t : Nat} (hl : l ≤ 8) (ht : t < 2 ^ 31) : nI t ≤ nI l - nI 1 ↔ nI t < nI l := by
  rcases Nat.eq_zero_or_pos l with e | e
  · subst e
    refine ⟨fun z => ?_, fun z => ?_⟩
    · have z2 := Int32.le_iff_toInt_le.mp z
      rw [nI_toInt ht, show (nI 0 - nI 1).toInt = -1 by decide] at z2
      omega
    · have z2 := Int32.lt_iff_toInt_lt.mp z
      rw [nI_toInt ht, show (nI 0).toInt = 0 by decide] at z2
      omega
  · rw [nI_m1 e]
    refine ⟨fun z => ?_, fun z => ?_⟩
    · have z2 := (nI_leI ht (by omega)).mp z
      exact nI_lt (by omega) (by omega)
    · have z2 := Int32.lt_iff_toInt_lt.mp z
      rw [nI_toInt ht, nI_toInt (by omega)] at z2
      exact nI_le (by omega) (by omega)
theorem lt_len {l : Nat} (hl : l ≤ 8) (y : Int32) : ltIn l y = (decide (nI 0 ≤ y) && decide (y < nI l)) := by
  unfold ltIn
  by_cases h : nI 0 ≤ y
  · obtain ⟨t, ht, rfl⟩ := nneg h
    rw [decide_eq_decide.mpr (lt_k hl ht)]
  · rw [decide_eq_false h, Bool.false_and, Bool.false_and]
/-- class and reference agree on letters -/
theorem lt_same {M : Me} {n : Nat} (h : WI M n) (x y : Int32) : ltIn (lw 8 (nmX M x)) y = ltC M x y ∧ (ltC M x y = true → ltV (nmX M x) y = ltW M x y) := by
  have hC := WI_CI h
  unfold ltC nmX
  cases ha : aSt M x with
  | false => exact ⟨by rw [cond_false, show lw 8 0 = 0 from rfl, lt_len (by omega)]; by_cases z : nI 0 ≤ y
                       · rw [decide_eq_true z, decide_eq_false (Int32.not_lt.mpr z)]; rfl
                       · rw [decide_eq_false z]; rfl, fun z => by cases z⟩
  | true =>
    obtain ⟨k, hk, rfl⟩ := aSt_at hC.1.1 ha
    have hn8 : sN M ≤ 8 := hC.1.1.2.1.2
    have htk : tN (nI k) = k := tN_nI (by omega)
    obtain ⟨-, w, l, h1, h2, h3, h4⟩ := h.1.1.2.2.2.2 k hk
    have h5 : wdV w l < 32 ^ 8 := Nat.lt_of_lt_of_le (wdV_lt l (fun i hi => (h2 i hi).2.2)) (Nat.pow_le_pow_right (by omega) h1)
    have h6 : nmN M k = wdV w l := by unfold nmN; rw [h4, lN_nat (Nat.lt_of_lt_of_le h5 (by decide))]
    have h7 : lw 8 (wdV w l) = l := lw_wd l 8 h1 (fun i hi => (h2 i hi).2)
    rw [cond_true, htk, h6, h7, lt_len h1, h3]
    refine ⟨rfl, fun z => ?_⟩
    simp only [Bool.true_and, Bool.and_eq_true, decide_eq_true_eq] at z
    obtain ⟨t, ht, rfl⟩ := nneg z.1
    have htl : t < l := by
      have z2 := Int32.lt_iff_toInt_lt.mp z.2
      rw [nI_toInt ht, nI_toInt (by omega)] at z2
      omega
    have h8 := h2 t htl
    unfold ltV ltW
    rw [h7, htk, tN_nI ht, wd_dig l t htl (fun i hi => (h2 i hi).2), h8.1, nI_m1 (by omega), pk_sub (show 97 ≤ w t by omega)]
    congr 1
/-! the law's own letter: it catches what class's letter throws -/
def yLl : MethodName := ⟨"ChannelSqueezeLaw", "letter", "(LChannelSqueeze;II[J)I"⟩
def hhL : List (Nat × Nat × Nat × Nat) := [(0, 10, 13, 13)]
def cwL : Cond := Cond.codeWith yLl method_3_code 5 (some .int) hhL
theorem lt_1076 : cwL ∈ TW := tw_mem 1090 (by decide +kernel) rfl
theorem lt_1074 : Cond.methodLink "ChannelSqueezeLaw" 178 yLl ∈ TW := tw_mem 1088 (by decide +kernel) rfl
theorem lt_1075 : Cond.static yLl ∈ TW := tw_mem 1089 (by decide +kernel) rfl
theorem lt_1077 : Cond.classLink "ChannelSqueezeLaw" 13 nsE ∈ TW := tw_mem 1091 (by decide +kernel) rfl
theorem lt_1078 : Cond.methodLink "ChannelSqueezeLaw" 7 yX9_letter ∈ TW := tw_mem 1092 (by decide +kernel) rfl
theorem lt_1079 : Cond.instanceMethod yX9_letter ∈ TW := tw_mem 1093 (by decide +kernel) rfl
theorem lt_1080 : Cond.selects "ChannelSqueeze" yX9_letter yX9_letter ∈ TW := tw_mem 1094 (by decide +kernel) rfl
theorem lt_1081 : Cond.code yX9_letter cX9_letter 3 (some .int) ∈ TW := tw_mem 1095 (by decide +kernel) rfl
theorem lt_ini : Cond.initialized "ChannelSqueeze" ∈ TW := (okY_all (show 118 < mCount by decide +kernel)).1
def AO (E : EV) (o : Nat) : Nat → Prop := fun q => AA E q ∨ q = o
theorem va_Pcons {D : va_G} {cl : List vw_C} {x : Nat × va_E} {ws : va_W} {H : Heap} (h1 : va_P D cl [x] H) (h2 : va_P D cl ws H) : va_P D cl (x :: ws) H := by
  intro k q hk
  cases k with
  | zero => exact h1 0 q hk
  | succ k => exact h2 k q hk
theorem va_Phd {D : va_G} {cl : List vw_C} {x : Nat × va_E} {ws : va_W} {H : Heap} (h : va_P D cl (x :: ws) H) : va_P D cl [x] H := by
  intro k q hk
  cases k with
  | zero => exact h 0 q hk
  | succ k => cases hk
theorem va_Ptl {D : va_G} {cl : List vw_C} {x : Nat × va_E} {ws : va_W} {H : Heap} (h : va_P D cl (x :: ws) H) : va_P D cl ws H := fun k q hk => h (k + 1) q hk
theorem AO_D {E : EV} {o : Nat} (M : Me) (h : GE E) (ho : ¬ AA E o) (z : va_E) : va_D (AO E o) ((o, z) :: wsE E M) := by
  obtain ⟨h1, h2⟩ := wsE_D M h
  refine ⟨fun a b x y ha hb hxy => ?_, fun k q hk => ?_⟩
  · cases a with
    | zero =>
      cases b with
      | zero => rfl
      | succ b =>
        cases ha
        exact absurd (show AA E o by rw [show o = y.1 from hxy]; exact h2 b y hb) ho
    | succ a =>
      cases b with
      | zero =>
        cases hb
        exact absurd (show AA E o by rw [show o = x.1 from hxy.symm]; exact h2 a x ha) ho
      | succ b => rw [h1 a b x y ha hb hxy]
  · cases k with
    | zero => cases hk; exact Or.inr rfl
    | succ k => exact Or.inl (h2 k q hk)
def PcO (E : EV) (as : List Value) (M : Me) (o : Nat) (fo : Nat → Int64) : Array Value → State → Prop := va_Pc as (fun U => (CK E U ∧ TK E U) ∧ va_P (eG E) vwCl (wsE E M) U.heap ∧ va_P (eG E) vwCl [(o, outE E fo)] U.heap)
theorem blindo {E : EV} {as : List Value} {M : Me} {o : Nat} {fo : Nat → Int64} : FrameBlind (PcO E as M o fo) := fun a U g mk q => ⟨q.1, ⟨CK_same q.2.1.1 rfl rfl, TK_same q.2.1.2 rfl rfl⟩, q.2.2⟩
def QcO (E : EV) (M : Me) (x y : Int32) (o : Nat) : Array Value → State → Outcome → State → Prop := fun _ st oc t => (∃ (r : Int32) (fo' : Nat → Int64), oc = .returned (some (.int r)) ∧ ((ltC M x y = true ∧ r = nI 0 ∧ fo' 0 = (ltW M x y).toInt64) ∨ (ltC M x y = false ∧ r = nI 1)) ∧ va_P (eG E) vwCl (wsE E M) t.heap ∧ va_P (eG E) vwCl [(o, outE E fo')] t.heap) ∧ va_F (AO E o) st t
theorem x_own (E : EV) (d : Nat) (M : Me) (hst : (eL E).stackTraces = false) (h : CI M) (hN : ∀ s, s < sN M → ∃ k, k ≤ 8 ∧ M.1 45 (pl M) s = nI k) (o3 : okMe M) (x y : Int32) (o : Nat) (fo : Nat → Int64) (ho : ¬ AA E o) :
    Met (eL E) yLl (cwL :: TW) (rmx (d + 7)) (PcO E [.ref (eA E 0 0), .int x, .int y, .ref o] M o fo) (QcO E M x y o) 1 6 (AO E o) := by
  refine va_MetW (cc := method_3_code) (maxL := 5) (ret := some .int) (hh := hhL) (by decide) rfl ?_
  intro p e s m args below meth c s₁ B hml hv'
  obtain ⟨rfl, ⟨hC, hK⟩, hP, hO⟩ := hv'
  have hS : va_S (AO E o) s.heap s.heap [] := va_S.rf
  have hts0 := atoms_spec (ws := cwL :: TW) B.pre
  have hts : ∀ w ∈ TW, w.before [.ref (eA E 0 0), .int x, .int y, .ref o].toArray s = true := fun w hw => hts0 w (List.mem_cons_of_mem _ hw)
  have hown : s.vm.findClass "ChannelSqueezeLaw" = some m.cls := findClass_of_methodNamed B.named
  have htab : c.exceptionTable.toList = tableOf hhL := vx_table (x := yLl) B (hts0 _ List.mem_cons_self)
  rw [lg_entry_eq]
  have hl := lv_entry [.ref (eA E 0 0), .int x, .int y, .ref o] (n := 5) (Nat.le_of_ble_eq_true rfl)
  generalize (lg_sl ([.ref (eA E 0 0), .int x, .int y, .ref o]) ++ List.replicate (5 - (lg_sl ([.ref (eA E 0 0), .int x, .int y, .ref o])).length) Slot.unset).toArray = js at hl ⊢
  have hl : lv_has js 5 [(0, .ref (eA E 0 0)), (1, .int x), (2, .int y), (3, .ref o)] := hl
  refine lv_aload_n B.exec B.bytes (k := 3) (show decode method_3_code 0 = .ok (.aload_n 3, 1) by decide +kernel) rfl (lv_at hl 3 rfl) ?_
  refine lv_iconst B.exec B.bytes (v := nI 0) (show decode method_3_code 1 = .ok (.iconst 0, 1) by decide +kernel) (by decide) ?_
  refine lv_aload_n B.exec B.bytes (k := 0) (show decode method_3_code 2 = .ok (.aload_n 0, 1) by decide +kernel) rfl (lv_at hl 0 rfl) ?_
  refine lv_iload_n B.exec B.bytes (k := 1) (show decode method_3_code 3 = .ok (.iload_n 1, 1) by decide +kernel) rfl (lv_at hl 1 rfl) ?_
  refine lv_iload_n B.exec B.bytes (k := 2) (show decode method_3_code 4 = .ok (.iload_n 2, 1) by decide +kernel) rfl (lv_at hl 2 rfl) ?_
  have hSA : va_S (AA E) s.heap s.heap [] := va_S.rf
  have hrun := vx_runV (p := p) (l := eL E) (e := e) (R := rmx (d + 7)) (below := below) (meth := meth) (H := s.heap) (locs := []) (cells := 0) (slots := 0) (g := F0 m 5 js [.int y, .int x, .ref (eA E 0 0), .int (nI 0), .ref o]) (As := [.int x, .int y]) (rest := [.int (nI 0), .ref o]) (C := "ChannelSqueeze") (b := eA E 0 0)
    ⟨B.exec, B.bytes, hml, hown, hts⟩ (x_letter E d M hst h hN o3 x y) ⟨callB_of 2 hts (good_code lt_1081) rfl rfl rfl (hts _ lt_ini) (hts _ lt_1078) (by decide +kernel) ⟨show d + 6 + 1 ≤ d + 7 by omega, show 8 + (3 + 11) + 64 * (d + 6) ≤ 64 * (d + 7) by omega⟩, hts _ lt_1079, hts _ lt_1080⟩
    ⟨blindx, rcv_cell (m' := m_CS_isStation) hC hP hSA (by decide) (by decide +kernel) (by decide), fun U hU hW => ⟨rfl, ⟨CK_warm hC hW (fun a h1 h2 => by rw [hU]), TK_warm hK hW (fun a h1 h2 => by rw [hU])⟩, by rw [hU]; exact hP⟩⟩ rfl rfl hl.1 rfl (lv_room (Nat.le_of_ble_eq_true rfl)) (show decode method_3_code 5 = .ok (.invokevirtual 7, 3) by decide +kernel) ⟨Nat.le_refl _, Nat.le_refl _⟩
  intro T hT X
  rcases hrun T hT X with ⟨v, st₀, t, T', L, h0, X', hL, e1, e2, ⟨⟨r, M', hv, ⟨rfl, rfl, hq⟩, hm, hr', hp⟩, hz, hkk⟩, stp⟩ | ⟨q, st₀, t, T', L, C9, ce, h0, X', hL, e1, e2, ⟨-, hq, ⟨rfl, hp⟩, hz, hkk⟩, hce, hcv, hcl, stp⟩
  · cases hv
    rw [h0] at hz hkk
    have hO' : va_P (eG E) vwCl [(o, outE E fo)] T'.heap := by
      refine hO.kept (fun k x hx => ?_)
      have hx1 : x.1 = o := by
        cases k with
        | zero => cases hx; rfl
        | succ k => cases hx
      rw [e1, hkk x.1 ((hO k x hx).lt) (by rw [hx1]; exact ho)]
    have hP' : va_P (eG E) vwCl (wsE E M') T'.heap := by rw [e1]; exact hp
    have hS' : va_S (AO E o) s.heap T'.heap ([] ++ L) := ⟨by rw [e1]; exact hz, fun z h1 h2 => by rw [e1]; exact hkk z h1 (fun w => h2 (Or.inl w)), fun z hz' => Or.inl (hL z hz')⟩
    have kk : W p (eL E) e (rmx (d + 7)) s m [.ref (eA E 0 0), .int x, .int y, .ref o].toArray below meth c T'.heap ([] ++ L) (0 + 1) (0 + 6) (MQ below (QcO E M' x y o) [.ref (eA E 0 0), .int x, .int y, .ref o].toArray s 1 6 (AO E o)) (F0 m 8 js [.int (ltW M' x y), .int (nI 0), .ref o]) := by
      refine lv_i2l B.exec B.bytes (show decode method_3_code 8 = .ok (.i2l, 1) by decide +kernel) rfl ?_
      refine va_last (f := fo) (i := nI 0) (ws := (o, outE E fo) :: wsE E M') B.exec B.bytes hC.2.1 (va_Pcons hO' hP') (AO_D M' hC.1 ho _) hS' 0 3 rfl rfl (vp_in_nI (show 0 < 1 by omega) (by omega)) (show decode method_3_code 9 = .ok (.lastore, 1) by decide +kernel) (fun H1 locs1 hP1 _ hS1 => ?_)
      refine lv_goto B.exec B.bytes (tgt := 17) (show decode method_3_code 10 = .ok (.goto 7, 3) by decide +kernel) rfl ?_
      refine lv_iconst B.exec B.bytes (v := nI 0) (show decode method_3_code 17 = .ok (.iconst 0, 1) by decide +kernel) (by decide) ?_
      exact W.iret (v := nI 0) B.exec B.bytes B.returns (fun t9 ht9 hW => ⟨⟨nI 0, _, rfl, Or.inl ⟨hq, rfl, rfl⟩, by rw [ht9]; exact va_Ptl hP1, by rw [ht9]; exact va_Phd hP1⟩, hS1.F ht9⟩) hS1.2.2 (show decode method_3_code 18 = .ok (.ireturn, 1) by decide +kernel) B.notSynchronized
    obtain ⟨t2, a1, b1⟩ := kk T' rfl X'
    exact ⟨t2, stp t2 a1, b1⟩
  · rw [h0] at hz hkk
    have hO' : va_P (eG E) vwCl [(o, outE E fo)] T'.heap := by
      refine hO.kept (fun k x hx => ?_)
      have hx1 : x.1 = o := by
        cases k with
        | zero => cases hx; rfl
        | succ k => cases hx
      rw [e1, hkk x.1 ((hO k x hx).lt) (by rw [hx1]; exact ho)]
    have hP' : va_P (eG E) vwCl (wsE E M) T'.heap := by rw [e1]; exact hp
    have hS' : va_S (AO E o) s.heap T'.heap ([] ++ L) := ⟨by rw [e1]; exact hz, fun z h1 h2 => by rw [e1]; exact hkk z h1 (fun w => h2 (Or.inl w)), fun z hz' => Or.inl (hL z hz')⟩
    have kk : vx_W p (eL E) e (rmx (d + 7)) s m [.ref (eA E 0 0), .int x, .int y, .ref o].toArray below meth c T'.heap ([] ++ L) (0 + 1) (0 + 6) (MQ below (QcO E M x y o) [.ref (eA E 0 0), .int x, .int y, .ref o].toArray s 1 6 (AO E o)) (F0 m 5 js [.int (nI 0), .ref o]) q := by
      refine vx_catch (own := "ChannelSqueezeLaw") (name := nsE) (E := nsE) (ce := ce) hown [] ⟨0, 10, 13, 13⟩ [] htab (fun z hz => nomatch hz) (by decide) (by decide) (hts _ lt_1077) (va_Nw.use rfl hK.2.1) (by rw [e1]; exact hce) hcv hcl ?_
      refine lv_astore B.exec B.bytes (show decode method_3_code 13 = .ok (.astore 4, 2) by decide +kernel) hl (by omega) rfl (fun js' hl' => ?_)
      refine lv_iconst B.exec B.bytes (v := nI 1) (show decode method_3_code 15 = .ok (.iconst 1, 1) by decide +kernel) (by decide) ?_
      exact W.iret (v := nI 1) B.exec B.bytes B.returns (fun t9 ht9 hW => ⟨⟨nI 1, fo, rfl, Or.inr ⟨hq, rfl⟩, by rw [ht9]; exact hP', by rw [ht9]; exact hO'⟩, hS'.F ht9⟩) hS'.2.2 (show decode method_3_code 16 = .ok (.ireturn, 1) by decide +kernel) B.notSynchronized
    obtain ⟨t2, a1, b1⟩ := kk T' rfl X'
    exact ⟨t2, stp.trans a1, b1⟩
