/-! the law's start: both objects and the long[] are made -/
section LB
variable {E : EV} {p : Program} {e : Env} {s : State} {m : MethodId} {below : List Frame} {meth : Method} {c : Code} {b L pc : Nat} {xs : Nat → Int32} {st : List Value} {js : Array Slot} {a0 n : Nat} {ws : va_W} {cells slots : Nat}
theorem lb_new {ix cj : Nat} (X : lw_At p s m meth c b L xs) (hK : CK0 E s) (hcj : cj < 11) (hw : Cond.classLink "ChannelSqueezeLaw" ix (clsC cj) ∈ TW) (hi : Cond.instantiable (clsC cj) (nf cj) ∈ TW) (hz : Cond.initialized (clsC cj) ∈ TW) (hc : cells + 1 ≤ 601024) (hs : slots + nf cj ≤ 7293034) (hd : isI pc (.new ix) 3 = true)
    (kk : Cj E room_1 p e s m #[.ref b] below meth c a0 js (lw_Z below #[.ref b] s) (pc + 3) (.ref (a0 + n) :: st) (n + 1) (ws ++ [(a0 + n, .inr (cj, nl cj))]) (cells + 1) (slots + nf cj)) : Cj E room_1 p e s m #[.ref b] below meth c a0 js (lw_Z below #[.ref b] s) pc st n ws cells slots := by
  obtain ⟨x1, x2, x3, x4, x5, x6, x7, x8, x9, x10⟩ := X
  have hts : ∀ w ∈ TW, w.before #[Value.ref b] s = true := fun w hw => x6 w (List.mem_filter.mp hw).1
  intro H locs hC hS0
  have hKn := hK.1.1 cj _ (cls_at _ hcj)
  refine W.newcK x1 x2 x5 (hts _ hw) (hts _ hi) (hts _ hz) (g := F0 m pc js st) rfl (isI_d hd) hc hs hKn.2.1 hC.2.1 fun H1 kC hkC e1 z1 o1 => ?_
  refine kk H1 locs (CW_app hC z1 ⟨_, cls_at _ hcj, (u_born (clsY cj) hts (tw_lays _ hcj) hKn hkC e1 (cls_ty _ hcj)).to (fun j hj => nl_at hj)⟩ o1) ⟨Nat.le_trans hS0.1 (by rw [hC.2.1, z1]; omega), fun q h1 h2 => (o1 q (Nat.lt_of_lt_of_le h1 (by rw [← hC.2.1]; exact hS0.1))).trans (hS0.2.1 q h1 h2), hS0.2.2⟩
theorem lb_call {ix cj k S d : Nat} {y : MethodName} {cc' : ByteArray} {res : va_W} (X : lw_At p s m meth c b L xs) (hK : CK0 E s) (hjs : js.size = 7) (hM : CtM E y cc' 1 [] (a0 + n) cj k res S d) (hw : Cond.methodLink "ChannelSqueezeLaw" ix y ∈ TW) (hcode : Cond.code y cc' 1 none ∈ TW) (hini : Cond.initialized y.cls ∈ TW) (hinst : Cond.instanceMethod y ∈ TW) (hyn : y.name = "<init>")
    (hd1 : y.cls ≠ "java/lang/invoke/MethodHandle" ∧ y.cls ≠ "java/lang/invoke/VarHandle" ∧ (parseMethodDescriptor y.desc).map (fun d => d.parameters.length) = some 0) (hR : d ≤ 40) (hc : cells + k ≤ 601024) (hs : slots + S ≤ 7293034) (hd : isI pc (.invokespecial ix) 3 = true)
    (kk : Cj E room_1 p e s m #[.ref b] below meth c a0 js (lw_Z below #[.ref b] s) (pc + 3) [.ref (a0 + n)] (n + (k + 1)) (ws ++ res) (cells + k) (slots + S)) : Cj E room_1 p e s m #[.ref b] below meth c a0 js (lw_Z below #[.ref b] s) pc (.ref (a0 + n) :: [.ref (a0 + n)]) (n + 1) (ws ++ [(a0 + n, .inr (cj, nl cj))]) cells slots := by
  refine j_back (m := k) (S := S) (res := res) (As := []) (a := (Value.ref (a0 + n) :: []).toArray) (fun H locs hC hS0 => ?_) kk
  obtain ⟨x1, x2, x3, x4, x5, x6, x7, x8, x9, x10⟩ := X
  have hts : ∀ w ∈ TW, w.before #[Value.ref b] s = true := fun w hw => x6 w (List.mem_filter.mp hw).1
  have hpre : PreS s H (PcN E (.ref (a0 + n) :: []) (a0 + n) cj) (.ref (a0 + n) :: []) := by
    refine ⟨blindn, fun U hU hW => ⟨rfl, CK0_warm hK hW, ?_⟩⟩
    obtain ⟨i1, i2, i3, i4, i5⟩ := CW_init hC
    rw [hU]
    refine ⟨rfl, by have := hC.2.1; omega, i4, fun k q hk => ?_⟩
    cases k with
    | zero => cases hk; rfl
    | succ k => cases hk
  exact va_runI (own := "ChannelSqueezeLaw") (g := F0 m pc js (.ref (a0 + n) :: [.ref (a0 + n)])) (rest := [.ref (a0 + n)]) (b := a0 + n) (As := []) ⟨x1, x2, x4, x5, hts⟩ hM ⟨callB_of 0 hts (good_code hcode) rfl rfl rfl (hts _ hini) (hts _ hw) hd1 ⟨show d + 1 ≤ 2048 by omega, show 8 + (1 + 11) + 64 * d ≤ 84000 by omega⟩, hyn, hts _ hinst⟩ hpre rfl rfl hjs rfl (lv_room (Nat.le_of_ble_eq_true rfl)) (isI_d hd) ⟨hc, hs⟩
theorem lb_dup {a : Nat} (X : lw_At p s m meth c b L xs) (hd : isI pc .dup 1 = true) (kk : Cj E room_1 p e s m #[.ref b] below meth c a0 js (lw_Z below #[.ref b] s) (pc + 1) (.ref a :: .ref a :: st) n ws cells slots) : Cj E room_1 p e s m #[.ref b] below meth c a0 js (lw_Z below #[.ref b] s) pc (.ref a :: st) n ws cells slots := fun H locs h1 h2 => lv_dup X.1 X.2.1 (isI_d hd) rfl (kk H locs h1 h2)
theorem lb_112 : Cond.classLink "ChannelSqueezeLaw" 8 "ChannelSqueeze" ∈ TW := tw_mem 113 (by decide +kernel) rfl
theorem lb_113 : Cond.instantiable "ChannelSqueeze" 14 ∈ TW := tw_mem 114 (by decide +kernel) rfl
theorem lb_91 : Cond.initialized "ChannelSqueeze" ∈ TW := tw_mem 92 (by decide +kernel) rfl
theorem lb_114 : Cond.methodLink "ChannelSqueezeLaw" 15 yc_CS ∈ TW := tw_mem 115 (by decide +kernel) rfl
theorem lb_115 : Cond.instanceMethod yc_CS ∈ TW := tw_mem 116 (by decide +kernel) rfl
theorem lb_116 : Cond.code yc_CS prog_1_method_1_code 1 none ∈ TW := tw_mem 117 (by decide +kernel) rfl
theorem lb_1147 : Cond.classLink "ChannelSqueezeLaw" 16 "ChannelSqueezeModel" ∈ TW := tw_mem 1161 (by decide +kernel) rfl
theorem lb_1148 : Cond.instantiable "ChannelSqueezeModel" 45 ∈ TW := tw_mem 1162 (by decide +kernel) rfl
theorem lb_101 : Cond.initialized "ChannelSqueezeModel" ∈ TW := tw_mem 102 (by decide +kernel) rfl
theorem lb_1149 : Cond.methodLink "ChannelSqueezeLaw" 18 yc_Mo ∈ TW := tw_mem 1163 (by decide +kernel) rfl
theorem lb_1150 : Cond.instanceMethod yc_Mo ∈ TW := tw_mem 1164 (by decide +kernel) rfl
theorem lb_1151 : Cond.code yc_Mo prog_12_method_1_code 1 none ∈ TW := tw_mem 1165 (by decide +kernel) rfl
theorem lv_swap {js : Array Slot} {n : Nat} {l l' : List (Nat × Value)} (h : lv_has js n l) (hs : ∀ q ∈ l', q ∈ l) : lv_has js n l' := ⟨h.1, h.2.1, fun q hq => h.2.2 q (hs q hq)⟩
/-- the world that the constructors leave -/
def w0 (E : EV) (h0 : Nat) : va_W := [] ++ rc_CS E (h0 + 0) ++ rc_Mo E (h0 + 100) ++ [(h0 + 118, outE E (fun _ => 0))]
theorem lw_begin (X : lw_At p s m meth c b L xs) (hK : CK0 E s) {h0 : Nat} (hh : s.heap.size = h0) (hl : lv_has js 7 [(0, .ref b)])
    (kk : ∀ (H : Heap) (locs : List Loc) (js : Array Slot), CW E h0 119 (w0 E h0) H → va_S (up0 h0) s.heap H locs → lv_has js 7 [(0, .ref b), (1, .ref h0), (2, .ref (h0 + 100)), (3, .ref (h0 + 118)), (4, .int (nI 0))] → W p (eL E) e room_1 s m #[.ref b] below meth c H locs 119 6224 (lw_Z below #[.ref b] s) (F0 m 23 js [])) :
    W p (eL E) e room_1 s m #[.ref b] below meth c s.heap [] 0 0 (lw_Z below #[.ref b] s) (F0 m 0 js []) := by
  obtain ⟨x1, x2, x3, x4, x5, x6, x7, x8, x9, x10⟩ := id X
  have hts : ∀ w ∈ TW, w.before #[Value.ref b] s = true := fun w hw => x6 w (List.mem_filter.mp hw).1
  have key : Cj E room_1 p e s m #[.ref b] below meth c h0 js (lw_Z below #[.ref b] s) 0 [] 0 [] 0 0 := by
    refine lb_new X hK (ix := 8) (cj := 9) (by decide) lb_112 lb_113 lb_91 (Nat.le_of_ble_eq_true rfl) (Nat.le_of_ble_eq_true rfl) (by decide +kernel) ?_
    refine lb_dup X (by decide +kernel) ?_
    refine lb_call X hK hl.1 (ix := 15) (ct_CS E (h0 + 0)) lb_114 lb_116 lb_91 lb_115 rfl (by decide +kernel) (by decide) (Nat.le_of_ble_eq_true rfl) (Nat.le_of_ble_eq_true rfl) (by decide +kernel) ?_
    intro H locs hC hS
    refine lv_astore_n x1 x2 (k := 1) (isI_d (show isI 7 (.astore_n 1) 1 = true by decide +kernel)) rfl hl (by omega) rfl (fun js1 hl1 => ?_)
    have hl1 : lv_has js1 7 [(1, .ref (h0 + 0)), (0, .ref b)] := hl1
    have key2 : Cj E room_1 p e s m #[.ref b] below meth c h0 js1 (lw_Z below #[.ref b] s) 8 [] 100 ([] ++ rc_CS E (h0 + 0)) 100 4704 := by
      refine lb_new X hK (ix := 16) (cj := 10) (by decide) lb_1147 lb_1148 lb_101 (Nat.le_of_ble_eq_true rfl) (Nat.le_of_ble_eq_true rfl) (by decide +kernel) ?_
      refine lb_dup X (by decide +kernel) ?_
      refine lb_call X hK hl1.1 (ix := 18) (ct_Mo E (h0 + 100)) lb_1149 lb_1151 lb_101 lb_1150 rfl (by decide +kernel) (by decide) (Nat.le_of_ble_eq_true rfl) (Nat.le_of_ble_eq_true rfl) (by decide +kernel) ?_
      intro H locs hC hS
      refine lv_astore_n x1 x2 (k := 2) (isI_d (show isI 15 (.astore_n 2) 1 = true by decide +kernel)) rfl hl1 (by omega) rfl (fun js2 hl2 => ?_)
      have hl2 : lv_has js2 7 [(2, .ref (h0 + 100)), (1, .ref (h0 + 0)), (0, .ref b)] := hl2
      refine lv_iconst x1 x2 (v := nI 1) (isI_d (show isI 16 (.iconst 1) 1 = true by decide +kernel)) (by decide) ?_
      refine va_newaK x1 x2 (atype := .long) (hts _ cw_1303) (g := F0 m 17 js2 (.int (nI 1) :: [])) rfl (isI_d (show isI 17 (.newarray .long) 2 = true by decide +kernel)) rfl (by decide) (show (nI 1).toNatClampNeg = 1 by decide) (by decide) (Nat.le_of_ble_eq_true rfl) (Nat.le_of_ble_eq_true rfl) hC.2.1 fun H1 cB e1 z1 o1 hAr hNm => ?_
      have e9 : cB = eJ E := Option.some.inj (hNm.symm.trans (hK.1.2 3 _ rfl).2)
      subst e9
      have hC1 : CW E h0 119 (w0 E h0) H1 := CW_app hC z1 e1 o1
      have hS1 : va_S (up0 h0) s.heap H1 locs := ⟨Nat.le_trans hS.1 (by rw [hC.2.1, z1]; omega), fun q h1 h2 => (o1 q (Nat.lt_of_lt_of_le h1 (by rw [← hC.2.1]; exact hS.1))).trans (hS.2.1 q h1 h2), hS.2.2⟩
      refine lv_astore_n x1 x2 (k := 3) (isI_d (show isI 19 (.astore_n 3) 1 = true by decide +kernel)) rfl hl2 (by omega) rfl (fun js3 hl3 => ?_)
      have hl3 : lv_has js3 7 [(3, .ref (h0 + 118)), (2, .ref (h0 + 100)), (1, .ref (h0 + 0)), (0, .ref b)] := hl3
      refine lv_iconst x1 x2 (v := nI 0) (isI_d (show isI 20 (.iconst 0) 1 = true by decide +kernel)) (by decide) ?_
      refine lv_istore x1 x2 (isI_d (show isI 21 (.istore 4) 2 = true by decide +kernel)) hl3 (by omega) rfl (fun js4 hl4 => ?_)
      have hl4 : lv_has js4 7 [(4, .int (nI 0)), (3, .ref (h0 + 118)), (2, .ref (h0 + 100)), (1, .ref (h0 + 0)), (0, .ref b)] := hl4
      refine kk H1 locs js4 hC1 hS1 (lv_swap hl4 (fun q hq => ?_))
      simp only [List.mem_cons, List.not_mem_nil, or_false] at hq ⊢
      rcases hq with h | h | h | h | h <;> simp [h]
    exact key2 H locs hC hS
  exact key s.heap [] ⟨rfl, hh, fun k q hk => (by cases hk), fun k q hk => (by cases hk)⟩ va_S.rf
end LB
