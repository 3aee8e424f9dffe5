/-! class's letter: it returns or throws -/
def rmx (d : Nat) : Room := { frames := d, cells := 1, slots := 6, locals := 64 * d }
theorem lt_433 : Cond.fieldLink "ChannelSqueeze" 74 "ChannelSqueeze" "plan" "LChannelSqueeze$Plan;" ∈ TW := tw_mem 442 (by decide +kernel) rfl
theorem lt_386 : Cond.fieldLinkNest "ChannelSqueeze" 368 "ChannelSqueeze$Plan" "nameLength" "[I" "ChannelSqueeze" ∈ NWl := nw_in (List.mem_of_getElem? (i := 395) (by decide +kernel)) rfl
theorem lt_383 : Cond.fieldLinkNest "ChannelSqueeze" 378 "ChannelSqueeze$Plan" "names" "[[I" "ChannelSqueeze" ∈ NWl := nw_in (List.mem_of_getElem? (i := 392) (by decide +kernel)) rfl
theorem lt_732 : Cond.methodLink "ChannelSqueeze" 170 yX9_isStation ∈ TW := tw_mem 741 (by decide +kernel) rfl
section GX
variable {E : EV} {M : Me} {p : Program} {l : Launch} {e : Env} {R : Room} {s : State} {mid : MethodId} {args : Array Value} {below : List Frame} {meth : Method} {c : Code} {H : Heap} {locs : List Loc} {cells slots : Nat} {Qm : State → Prop} {cc : ByteArray} {pc : Nat} {js : Array Slot} {rest : List Value}
theorem g_get {own : String} {i r b ix : Nat} (x1 : p.tables.exec = Jvm.exec) (x2 : c.code = cc) (x5 : s.vm.findClass own = some mid.cls) (x6 : ∀ w ∈ TW, w.before args s = true) (x8 : CK E s) (hP : va_P (eG E) vwCl (wsE E M) H) (hr : r < rn i) (h1 : (ly i).1 = 1) (f2 : b < nf (ly i).2) (f3 : (clsT (ly i).2 b).1 = clsC (ly i).2)
    (hw : Cond.fieldLink own ix (clsC (ly i).2) (clsT (ly i).2 b).2.1 (clsT (ly i).2 b).2.2.1 ∈ TW) (hd : decode cc pc = .ok (.getfield ix, 3)) (kk : W p l e R s mid args below meth c H locs cells slots Qm (F0 mid (pc + 3) js (cv E (getF M i r b) :: rest))) : W p l e R s mid args below meth c H locs cells slots Qm (F0 mid pc js (.ref (eA E i r) :: rest)) := by
  obtain ⟨q0, -, hq⟩ := wsE_at E M (ly_lt (by rw [h1]; decide)) hr
  rw [cell_obj h1] at hq
  exact va_get (T := clsT (ly i).2) (C := clsC (ly i).2) x1 x2 x6 (tw_lays _ (lay_cls h1)) x5 x8.2.1 hP q0 hq (cls_at _ (lay_cls h1)) b f2 (x6 _ hw) (fun z hz => by rw [f3] at hz; exact hz) (fs_at f2) hd kk
theorem g_getN {own : String} {i r b ix : Nat} (x1 : p.tables.exec = Jvm.exec) (x2 : c.code = cc) (x5 : s.vm.findClass own = some mid.cls) (x6 : ∀ w ∈ TW, w.before args s = true) (x8 : CK E s) (hP : va_P (eG E) vwCl (wsE E M) H) (hr : r < rn i) (h1 : (ly i).1 = 1) (f2 : b < nf (ly i).2) (f3 : (clsT (ly i).2 b).1 = clsC (ly i).2)
    (hw : Cond.fieldLinkNest own ix (clsC (ly i).2) (clsT (ly i).2 b).2.1 (clsT (ly i).2 b).2.2.1 "ChannelSqueeze" ∈ NWl) (hd : decode cc pc = .ok (.getfield ix, 3)) (kk : W p l e R s mid args below meth c H locs cells slots Qm (F0 mid (pc + 3) js (cv E (getF M i r b) :: rest))) : W p l e R s mid args below meth c H locs cells slots Qm (F0 mid pc js (.ref (eA E i r) :: rest)) := by
  obtain ⟨q0, -, hq⟩ := wsE_at E M (ly_lt (by rw [h1]; decide)) hr
  rw [cell_obj h1] at hq
  exact va_getN (T := clsT (ly i).2) (C := clsC (ly i).2) x1 x2 x6 (tw_lays _ (lay_cls h1)) x5 x8.2.1 hP q0 hq (cls_at _ (lay_cls h1)) b f2 (va_Nw.use rfl (x8.2.2.1 _ hw)) (fun z hz => by rw [f3] at hz; exact hz) (fs_at f2) hd kk
theorem g_iald {i r n t : Nat} (x1 : p.tables.exec = Jvm.exec) (x2 : c.code = cc) (x8 : CK E s) (hP : va_P (eG E) vwCl (wsE E M) H) (hr : r < rn i) (h1 : ly i = (2, n)) (ht : t < n) (hd : decode cc pc = .ok (.iaload, 1)) (kk : W p l e R s mid args below meth c H locs cells slots Qm (F0 mid (pc + 1) js (.int (M.1 i r t) :: rest))) : W p l e R s mid args below meth c H locs cells slots Qm (F0 mid pc js (.int (nI t) :: .ref (eA E i r) :: rest)) := by
  have hn : n < 3000 := lay_len 2 h1 (by decide) (by decide)
  obtain ⟨q0, -, hq⟩ := wsE_at E M (ly_lt (by rw [h1]; show (2 : Nat) ≠ 0; decide)) hr
  rw [cell_i (by rw [h1]), h1] at hq
  refine va_iald (f := M.1 i r) x1 x2 x8.2.1 hP q0 0 hq rfl (vp_in_nI ht (by omega)) hd ?_
  rw [nI_clamp (by omega)]
  exact kk
theorem g_aald {i r n t : Nat} (x1 : p.tables.exec = Jvm.exec) (x2 : c.code = cc) (x8 : CK E s) (hP : va_P (eG E) vwCl (wsE E M) H) (hr : r < rn i) (h1 : ly i = (6, n)) (ht : t < n) (hn : n < 3000) (hd : decode cc pc = .ok (.aaload, 1)) (kk : W p l e R s mid args below meth c H locs cells slots Qm (F0 mid (pc + 1) js (.ref (eA E (tgt i 0) (t + r * n)) :: rest))) : W p l e R s mid args below meth c H locs cells slots Qm (F0 mid pc js (.int (nI t) :: .ref (eA E i r) :: rest)) := by
  obtain ⟨q0, -, hq⟩ := wsE_at E M (ly_lt (by rw [h1]; show (6 : Nat) ≠ 0; decide)) hr
  rw [cell_q (by rw [h1]), h1] at hq
  have hj : vp_in (nI t) n := vp_in_nI ht (by omega)
  have hlt := clamp_lt hj
  refine W.aald (v := .ref (eA E (tgt i 0) ((nI t).toNatClampNeg + r * n))) (ty := .array .int) x1 x2 (hP q0 _ hq) ((x8.2.1.2 4 _ rfl).1 n (fun j => va_rf (some (eA E (tgt i 0) (j + r * n))))) rfl (fun q => by cases q) (by show ¬ (nI t < 0 ∨ (arrV _ _ _).slots.size ≤ _); rw [arrV_size]; exact hj) (by show (arrV _ _ _).slots[_]? = _; rw [arrV_read _ _ hlt]; rfl) rfl rfl hd ?_
  rw [nI_clamp (by omega)]
  exact kk
end GX
def PcX (E : EV) (as : List Value) (M : Me) : Array Value → State → Prop := va_Pc as (fun U => (CK E U ∧ TK E U) ∧ va_P (eG E) vwCl (wsE E M) U.heap)
theorem blindx {E : EV} {as : List Value} {M : Me} : FrameBlind (PcX E as M) := fun a U g mk q => ⟨q.1, ⟨CK_same q.2.1.1 rfl rfl, TK_same q.2.1.2 rfl rfl⟩, q.2.2⟩
def ltC (M : Me) (x y : Int32) : Bool := aSt M x && (decide (nI 0 ≤ y) && decide (y < M.1 45 (pl M) (tN x)))
def ltW (M : Me) (x y : Int32) : Int32 := M.1 44 (tN x + pl M * 8) (tN y) - nI 97
def xcL (E : EV) (M : Me) (x y : Int32) : String → State → State → Prop := vx_X (fun _ : Unit => ltC M x y = false) (fun C _ t => C = nsE ∧ va_P (eG E) vwCl (wsE E M) t.heap) (AA E)
def qcL (M : Me) (x y : Int32) : Option AV → Me → Prop := fun r M' => r = some (vI (ltW M x y)) ∧ M' = M ∧ ltC M x y = true
theorem x_letter (E : EV) (d : Nat) (M : Me) (hst : (eL E).stackTraces = false) (h : CI M) (hN : ∀ s, s < sN M → ∃ k, k ≤ 8 ∧ M.1 45 (pl M) s = nI k) (o3 : okMe M) (x y : Int32) :
    vx_Met (eL E) yX9_letter (Cond.code yX9_letter cX9_letter 3 (some .int) :: TW) (rmx (d + 6)) (PcX E [.ref (eA E 0 0), .int x, .int y] M) (Qc E (qcL M x y)) (xcL E M x y) 1 6 (AA E) := by
  have hpl : pl M < 2 := o3 0 0 9 rfl rfl
  refine vx_ofW (cc := cX9_letter) (maxL := 3) (ret := some .int) (by decide) rfl ?_
  intro p e s m args below meth c s₁ B hml hex hv'
  obtain ⟨rfl, ⟨hC, hK⟩, hP⟩ := hv'
  have hS : va_S (AA E) s.heap s.heap [] := va_S.rf
  have hts0 := atoms_spec (ws := Cond.code yX9_letter cX9_letter 3 (some .int) :: TW) B.pre
  have hts : ∀ w ∈ TW, w.before [.ref (eA E 0 0), .int x, .int y].toArray s = true := fun w hw => hts0 w (List.mem_cons_of_mem _ hw)
  have hown : s.vm.findClass "ChannelSqueeze" = some m.cls := findClass_of_methodNamed B.named
  rw [lg_entry_eq]
  have hl := lv_entry [.ref (eA E 0 0), .int x, .int y] (n := 3) (Nat.le_of_ble_eq_true rfl)
  generalize (lg_sl ([.ref (eA E 0 0), .int x, .int y]) ++ List.replicate (3 - (lg_sl ([.ref (eA E 0 0), .int x, .int y])).length) Slot.unset).toArray = js at hl ⊢
  have hl : lv_has js 3 [(0, .ref (eA E 0 0)), (1, .int x), (2, .int y)] := hl
  have hthrow : ∀ (H1 : Heap) (locs1 : List Loc), ltC M x y = false → va_P (eG E) vwCl (wsE E M) H1 → va_S (AA E) s.heap H1 locs1 →
      W p (eL E) e (rmx (d + 6)) s m [.ref (eA E 0 0), .int x, .int y].toArray below meth c H1 locs1 0 0 (vx_MQ below (Qc E (qcL M x y)) (xcL E M x y) [.ref (eA E 0 0), .int x, .int y].toArray s 1 6 (AA E)) (F0 m 25 js []) := by
    intro H1 locs1 hq hP1 hS1
    refine ns_throw B.exec B.bytes hst hown hts hK hS1 (hl.1.trans hml.symm) (by decide +kernel) (by decide +kernel) (by decide +kernel) (by decide +kernel) (by decide +kernel) (fun z hz => (hex z hz).elim) (show 5 < d + 6 by omega) (show 0 + 82 ≤ 64 * (d + 6) by omega) (Nat.le_refl _) (Nat.le_refl _) B.notSynchronized ?_ hS1.2.2 (Nat.le_refl _) (Nat.le_refl _)
    intro t ha hz hk
    refine ⟨(), hq, ⟨rfl, hP1.kept (fun k q hq => ?_)⟩, ⟨Nat.le_trans hS1.1 hz, fun q h1 h2 => ?_⟩⟩
    · exact hk q.1 ((hP1 k q hq).lt)
    · rw [hk q (Nat.lt_of_lt_of_le h1 hS1.1)]
      exact hS1.2.1 q h1 h2
  refine lv_aload_n B.exec B.bytes (k := 0) (show decode cX9_letter 0 = .ok (.aload_n 0, 1) by decide +kernel) rfl (lv_at hl 0 rfl) ?_
  refine lv_iload_n B.exec B.bytes (k := 1) (show decode cX9_letter 1 = .ok (.iload_n 1, 1) by decide +kernel) rfl (lv_at hl 1 rfl) ?_
  obtain ⟨y1, y2, y3, y4, y5, y6, y7⟩ := okY_all (show 118 < mCount by decide +kernel)
  refine w_after (E := E) (Q' := RP (vI (bI (aSt M x))) M) (a := [.ref (eA E 0 0), .int x].toArray) (rest := []) (va_runV (As := [.int x]) (C := "ChannelSqueeze") (rest := []) ⟨B.exec, B.bytes, hml, hown, hts⟩ (c_isStation E d M h x (okSt_cons (show (0 : Nat) < rn 0 by decide) (okSt_cons trivial (fun v hv => by cases hv))) o3) ⟨callB_of 1 hts (good_code ok_CS_isStation.1) rfl rfl rfl (hts _ y1) (hts _ lt_732) y4 ⟨show d + 1 ≤ d + 6 by omega, show 8 + (2 + 11) + 64 * d ≤ 64 * (d + 6) by omega⟩, hts _ (y2 rfl).1, hts _ (y2 rfl).2⟩ ⟨blind, rcv_cell (m' := m_CS_isStation) hC hP hS (by decide) y7 (by decide), pre_at hC hP hS⟩ rfl rfl hl.1 rfl (lv_room (Nat.le_of_ble_eq_true rfl)) (show decode cX9_letter 2 = .ok (.invokevirtual 170, 3) by decide +kernel) ⟨Nat.zero_le _, Nat.zero_le _⟩) hS ?_
  rintro r M' H1 locs1 ⟨rfl, rfl⟩ q2 q3 q4 q5
  cases ha : aSt M' x with
  | false =>
    refine lv_if_eq B.exec B.bytes (tgt := 25) (show decode cX9_letter 5 = .ok (.ifCond .eq 20, 3) by decide +kernel) rfl (fun _ => ?_) (fun z => absurd rfl z)
    exact hthrow H1 locs1 (by unfold ltC; rw [ha]; rfl) q4 q5
  | true =>
    obtain ⟨k, hk, rfl⟩ := aSt_at h.1.1 ha
    have hn8 : sN M' ≤ 8 := h.1.1.2.1.2
    obtain ⟨L, hL, hLe⟩ := hN k hk
    have htk : tN (nI k) = k := tN_nI (by omega)
    refine lv_if_eq B.exec B.bytes (x := 1) (tgt := 25) (show decode cX9_letter 5 = .ok (.ifCond .eq 20, 3) by decide +kernel) rfl (fun z => absurd z (by decide)) (fun _ => ?_)
    refine lv_iload_n B.exec B.bytes (k := 2) (show decode cX9_letter 8 = .ok (.iload_n 2, 1) by decide +kernel) rfl (lv_at hl 2 rfl) ?_
    refine lv_if_lt B.exec B.bytes (tgt := 25) (show decode cX9_letter 9 = .ok (.ifCond .lt 16, 3) by decide +kernel) rfl (fun z => ?_) (fun z => ?_)
    · refine hthrow H1 locs1 ?_ q4 q5
      unfold ltC
      rw [decide_eq_false (show ¬ nI 0 ≤ y from fun w => absurd w (Int32.not_le.mpr z))]
      simp
    have hy0 : nI 0 ≤ y := Int32.not_lt.mp z
    obtain ⟨t, ht, rfl⟩ := nneg hy0
    have htt : tN (nI t) = t := tN_nI ht
    refine lv_iload_n B.exec B.bytes (k := 2) (show decode cX9_letter 12 = .ok (.iload_n 2, 1) by decide +kernel) rfl (lv_at hl 2 rfl) ?_
    refine lv_aload_n B.exec B.bytes (k := 0) (show decode cX9_letter 13 = .ok (.aload_n 0, 1) by decide +kernel) rfl (lv_at hl 0 rfl) ?_
    refine g_get (E := E) (M := M') (i := 0) (r := 0) (b := 9) B.exec B.bytes hown hts hC q4 (by decide) rfl (by decide) rfl lt_433 (show decode cX9_letter 14 = .ok (.getfield 74, 3) by decide +kernel) ?_
    refine g_getN (E := E) (M := M') (i := 30) (r := pl M') (b := 5) B.exec B.bytes hown hts hC q4 hpl rfl (by decide) rfl lt_386 (show decode cX9_letter 17 = .ok (.getfield 368, 3) by decide +kernel) ?_
    refine lv_iload_n B.exec B.bytes (k := 1) (show decode cX9_letter 20 = .ok (.iload_n 1, 1) by decide +kernel) rfl (lv_at hl 1 rfl) ?_
    refine g_iald (E := E) (M := M') (i := 45) (r := pl M') (n := 8) (t := k) B.exec B.bytes hC q4 hpl rfl (by omega) (show decode cX9_letter 21 = .ok (.iaload, 1) by decide +kernel) ?_
    refine lv_icmp_lt B.exec B.bytes (tgt := 36) (show decode cX9_letter 22 = .ok (.if_icmp .lt 14, 3) by decide +kernel) rfl (fun z => ?_) (fun z => ?_)
    · have htL : t < L := by
        rw [hLe] at z
        have z2 := Int32.lt_iff_toInt_lt.mp z
        rw [nI_toInt ht, nI_toInt (by omega)] at z2
        omega
      refine lv_aload_n B.exec B.bytes (k := 0) (show decode cX9_letter 36 = .ok (.aload_n 0, 1) by decide +kernel) rfl (lv_at hl 0 rfl) ?_
      refine g_get (E := E) (M := M') (i := 0) (r := 0) (b := 9) B.exec B.bytes hown hts hC q4 (by decide) rfl (by decide) rfl lt_433 (show decode cX9_letter 37 = .ok (.getfield 74, 3) by decide +kernel) ?_
      refine g_getN (E := E) (M := M') (i := 30) (r := pl M') (b := 4) B.exec B.bytes hown hts hC q4 hpl rfl (by decide) rfl lt_383 (show decode cX9_letter 40 = .ok (.getfield 378, 3) by decide +kernel) ?_
      refine lv_iload_n B.exec B.bytes (k := 1) (show decode cX9_letter 43 = .ok (.iload_n 1, 1) by decide +kernel) rfl (lv_at hl 1 rfl) ?_
      refine g_aald (E := E) (M := M') (i := 43) (r := pl M') (n := 8) (t := k) B.exec B.bytes hC q4 hpl rfl (by omega) (by omega) (show decode cX9_letter 44 = .ok (.aaload, 1) by decide +kernel) ?_
      refine lv_iload_n B.exec B.bytes (k := 2) (show decode cX9_letter 45 = .ok (.iload_n 2, 1) by decide +kernel) rfl (lv_at hl 2 rfl) ?_
      refine g_iald (E := E) (M := M') (i := 44) (r := k + pl M' * 8) (n := 8) (t := t) B.exec B.bytes hC q4 (show k + pl M' * 8 < 16 by omega) rfl (by omega) (show decode cX9_letter 46 = .ok (.iaload, 1) by decide +kernel) ?_
      refine lv_bipush B.exec B.bytes (v := nI 97) (show decode cX9_letter 47 = .ok (.bipush 97, 2) by decide +kernel) (by decide) ?_
      refine lv_isub B.exec B.bytes (show decode cX9_letter 49 = .ok (.isub, 1) by decide +kernel) ?_
      refine vx_ret ?_
      refine W.widen (k := 1) (n := 6) (by decide) (by decide) ?_
      refine W.iret (v := M'.1 44 (k + pl M' * 8) t - nI 97) B.exec B.bytes B.returns (fun t9 ht9 hW => ⟨⟨some (vI (M'.1 44 (k + pl M' * 8) t - nI 97)), M', rfl, ⟨?_, rfl, ?_⟩, q2, fun v hv => by cases hv; trivial, by rw [ht9]; exact q4⟩, q5.F ht9⟩) q5.2.2 (show decode cX9_letter 50 = .ok (.ireturn, 1) by decide +kernel) B.notSynchronized
      · unfold ltW; rw [htk, htt]
      · unfold ltC; rw [ha, htk, decide_eq_true hy0, decide_eq_true z]; rfl
    · refine hthrow H1 locs1 ?_ q4 q5
      unfold ltC
      rw [htk, decide_eq_false z]
      simp
