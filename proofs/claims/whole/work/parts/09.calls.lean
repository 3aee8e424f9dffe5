/-! constants, switches, calls, returns; many steps at once -/
theorem cnm_cls : ∀ o, o < 11 → cnm o = clsC o := by
  intro o h
  match o, h with
  | 0, _ => rfl
  | 1, _ => rfl
  | 2, _ => rfl
  | 3, _ => rfl
  | 4, _ => rfl
  | 5, _ => rfl
  | 6, _ => rfl
  | 7, _ => rfl
  | 8, _ => rfl
  | 9, _ => rfl
  | 10, _ => rfl
  | o + 11, h => exact absurd h (by omega)
def cats : List AV → Nat
  | [] => 0
  | .inr (.inl _) :: l => 2 + cats l
  | _ :: l => 1 + cats l
theorem cats_eq {E : EV} : ∀ st : List AV, ((st.map (cv E)).map fun v => v.category).sum = cats st
  | [] => rfl
  | .inl x :: l => by
    show 1 + ((l.map (cv E)).map fun v => v.category).sum = 1 + cats l
    rw [cats_eq l]
  | .inr (.inl x) :: l => by
    show 2 + ((l.map (cv E)).map fun v => v.category).sum = 2 + cats l
    rw [cats_eq l]
  | .inr (.inr x) :: l => by
    show 1 + ((l.map (cv E)).map fun v => v.category).sum = 1 + cats l
    rw [cats_eq l]
def rcvOK (m' : MC) (v : AV) : Bool := match v with
  | .inr (.inr q) => (Nat.beq (ly q.1).1 1 && Nat.beq (ly q.1).2 (mO m')) || (Nat.beq (mO m') 14 && (Nat.ble 300 q.1 && (Nat.blt q.1 309 && Nat.beq q.2 0)))
  | _ => false
def codeW (m : MC) : Cond := Cond.code (mN m) (mB m) (mL m) (mR m)
section SC
variable {E : EV} {d : Nat} {m : MC} {pc : Nat} {ls : List (Option AV)} {st : List AV} {M : Me} {Q : Option AV → Me → Prop}
theorem w_ldcs {ix b : Nat} (hd : decode (mB m) pc = .ok (.ldc ix, 2)) (hs : slk.any (fun z => Nat.beq z.1 (mO m) && (Nat.beq z.2.1 ix && Nat.beq z.2.2.1 b)) = true) (hb : 0 < rn b) (hk : Wp E d m (pc + 2) ls (vP b 0 :: st) M Q) : Wp E d m pc ls st M Q := by
  obtain ⟨z, hz, e⟩ := List.any_eq_true.mp hs
  simp only [Bool.and_eq_true, Nat.beq_eq] at e
  obtain ⟨e1, e2, e3⟩ := e
  intro p e s mid args below meth c H locs js F hP hS hl o1 o2 o3
  have hR := F.2.2.2.2.2.2.2.2.2.2.1 z hz
  rw [e1, e2, e3] at hR
  exact va_ldcS F.1 F.2.1 F.2.2.2.2.1 hR hd (hk p e s mid args below meth c H locs js F hP hS hl (okSt_cons hb o1) o2 o3)
theorem w_ldcw {ix b : Nat} (hd : decode (mB m) pc = .ok (.ldc_w ix, 3)) (hs : ilk.any (fun z => decide (z.1 = (mO m, ix, b)) && decide (lw_tbl[z.2]? = some (Cond.constant (cnm (mO m)) ix (nI b)))) = true) (hk : Wp E d m (pc + 3) ls (vI (nI b) :: st) M Q) : Wp E d m pc ls st M Q := by
  obtain ⟨z, hz, e⟩ := List.any_eq_true.mp hs
  simp only [Bool.and_eq_true] at e
  intro p e' s mid args below meth c H locs js F hP hS hl o1 o2 o3
  exact lv_ldcw F.1 F.2.1 F.2.2.2.2.1 (F.2.2.2.2.2.1 _ (tw_mem _ (of_decide_eq_true e.2) rfl)) hd (hk p e' s mid args below meth c H locs js F hP hS hl (okSt_cons trivial o1) o2 o3)
theorem w_ldc2w {ix b : Nat} (hd : decode (mB m) pc = .ok (.ldc2_w ix, 3)) (hs : clk.any (fun z => decide (z.1 = (mO m, ix, b)) && decide (lw_tbl[z.2]? = some (Cond.constantLong (cnm (mO m)) ix (lN b)))) = true) (hk : Wp E d m (pc + 3) ls (vJ (lN b) :: st) M Q) : Wp E d m pc ls st M Q := by
  obtain ⟨z, hz, e⟩ := List.any_eq_true.mp hs
  simp only [Bool.and_eq_true] at e
  intro p e' s mid args below meth c H locs js F hP hS hl o1 o2 o3
  exact lv_ldc2 F.1 F.2.1 F.2.2.2.2.1 (F.2.2.2.2.2.1 _ (tw_mem _ (of_decide_eq_true e.2) rfl)) hd (hk p e' s mid args below meth c H locs js F hP hS hl (okSt_cons trivial o1) o2 o3)
def xTab (x : Int32) (k : Int → Prop) : Nat → List Int → Prop
  | _, [] => True
  | n, off :: l => (x = nI n → k off) ∧ xTab x k (n + 1) l
theorem xTab_at {x : Int32} {k : Int → Prop} : ∀ (l : List Int) (n j : Nat) (off : Int), xTab x k n l → l[j]? = some off → x = nI (n + j) → k off
  | [], _, _, _, _, h, _ => by cases h
  | a :: l, n, 0, off, h, ho, e => by
    rw [List.getElem?_cons_zero] at ho
    cases ho
    exact h.1 e
  | a :: l, n, j + 1, off, h, ho, e => by
    rw [List.getElem?_cons_succ] at ho
    exact xTab_at l (n + 1) j off h.2 ho (by rw [e]; congr 1; omega)
theorem toInt_nI {x : Int32} {j : Nat} (hj : j < 2 ^ 31) (h : x.toInt = (j : Int)) : x = nI j := Int32.toInt_inj.mp (by rw [h, nI_toInt hj])
theorem w_table {dflt lo hi : Int} {offs : Array Int} {len a b : Nat} {x : Int32} (hd : decode (mB m) pc = .ok (.tableswitch dflt lo hi offs, len)) (ha : lo = (a : Int)) (hb : hi = (b : Int)) (hbs : b < 1000) (hsz : offs.toList.length + a = b + 1) (h0 : 0 ≤ (pc : Int) + dflt) (hall : ∀ o ∈ offs.toList, 0 ≤ (pc : Int) + o)
    (hk1 : (x < nI a ∨ nI b < x) → Wp E d m (jt pc dflt) ls st M Q) (hk2 : xTab x (fun off => Wp E d m (jt pc off) ls st M Q) a offs.toList) : Wp E d m pc ls (vI x :: st) M Q := by
  subst ha; subst hb
  intro p e s mid args below meth c H locs js F hP hS hl o1 o2 o3
  have hta : (nI a).toInt = (a : Int) := nI_toInt (by omega)
  have htb : (nI b).toInt = (b : Int) := nI_toInt (by omega)
  by_cases hx : x.toInt < (a : Int) ∨ (b : Int) < x.toInt
  · refine lv_tableOut F.1 F.2.1 hd hx (jt_eq h0) (hk1 ?_ p e s mid args below meth c H locs js F hP hS hl (okSt_tl o1) o2 o3)
    rcases hx with hx | hx
    · exact Or.inl (Int32.lt_iff_toInt_lt.mpr (by rw [hta]; exact hx))
    · exact Or.inr (Int32.lt_iff_toInt_lt.mpr (by rw [htb]; exact hx))
  · have h1 : ¬ x.toInt < (a : Int) := fun q => hx (Or.inl q)
    have h2 : ¬ (b : Int) < x.toInt := fun q => hx (Or.inr q)
    obtain ⟨j, hj⟩ : ∃ j : Nat, x.toInt = ((a + j : Nat) : Int) := ⟨(x.toInt - (a : Int)).toNat, by omega⟩
    have hjl : j < offs.toList.length := by omega
    have hoff : offs[(x.toInt - (a : Int)).toNat]? = some (offs.toList[j]) := by
      have : (x.toInt - (a : Int)).toNat = j := by omega
      rw [this, ← Array.getElem?_toList]
      exact List.getElem?_eq_getElem hjl
    refine lv_tableIn F.1 F.2.1 hd h1 h2 hoff (jt_eq (hall _ (List.getElem_mem hjl))) ?_
    exact xTab_at offs.toList a j _ hk2 (List.getElem?_eq_getElem hjl) (toInt_nI (by omega) hj) p e s mid args below meth c H locs js F hP hS hl (okSt_tl o1) o2 o3
def xLook (x : Int32) (k : Int → Prop) (dflt : Int) : List (Int × Int) → Prop
  | [] => k dflt
  | q :: l => (x = nI q.1.toNat → k q.2) ∧ (¬ x = nI q.1.toNat → xLook x k dflt l)
theorem xLook_at {x : Int32} {k : Int → Prop} {dflt : Int} : ∀ (l : List (Int × Int)), (∀ q ∈ l, 0 ≤ q.1 ∧ q.1 < 1000) → xLook x k dflt l → k (Op.lookupswitch.offset l dflt x.toInt)
  | [], _, h => h
  | (a, o) :: l, hl, h => by
    obtain ⟨h0, h9⟩ := hl (a, o) List.mem_cons_self
    have ht : (nI a.toNat).toInt = a := by rw [nI_toInt (by omega)]; omega
    by_cases e : x = nI a.toNat
    · have h1 := h.1 e
      rw [Op.lookupswitch.offset_cons, if_pos (by rw [e, ht])]
      exact h1
    · rw [lv_osw e ht]
      exact xLook_at l (fun q hq => hl q (List.mem_cons_of_mem _ hq)) (h.2 e)
theorem off_mem {l : List (Int × Int)} {dflt v : Int} {P : Int → Prop} (h0 : P dflt) (hl : ∀ q ∈ l, P q.2) : P (Op.lookupswitch.offset l dflt v) := by
  induction l with
  | nil => exact h0
  | cons q l ih =>
    obtain ⟨a, o⟩ := q
    rw [Op.lookupswitch.offset_cons]
    split
    · exact hl (a, o) List.mem_cons_self
    · exact ih (fun q hq => hl q (List.mem_cons_of_mem _ hq))
theorem w_look {dflt : Int} {ps : Array (Int × Int)} {len : Nat} {x : Int32} (hd : decode (mB m) pc = .ok (.lookupswitch dflt ps, len)) (hs : (ps.toList.zip (ps.toList.drop 1)).all (fun (a, next) => a.1 < next.1) = true) (h0 : 0 ≤ (pc : Int) + dflt) (hall : ∀ q ∈ ps.toList, 0 ≤ (pc : Int) + q.2) (hr : ∀ q ∈ ps.toList, 0 ≤ q.1 ∧ q.1 < 1000)
    (hk : xLook x (fun off => Wp E d m (jt pc off) ls st M Q) dflt ps.toList) : Wp E d m pc ls (vI x :: st) M Q := by
  intro p e s mid args below meth c H locs js F hP hS hl o1 o2 o3
  exact lv_lookup F.1 F.2.1 hd hs rfl (jt_eq (off_mem (P := fun o => 0 ≤ (pc : Int) + o) h0 hall)) (xLook_at _ hr hk p e s mid args below meth c H locs js F hP hS hl (okSt_tl o1) o2 o3)
theorem w_iret {x : Int32} (hd : decode (mB m) pc = .ok (.ireturn, 1)) (hm : mR m = some .int) (hq : Q (some (vI x)) M) : Wp E d m pc ls [vI x] M Q := by
  intro p e s mid args below meth c H locs js F hP hS hl o1 o2 o3
  obtain ⟨x1, x2, x3, x4, x5, x6, x7, x8⟩ := F
  exact W.iret (v := x) x1 x2 (x4.trans hm) (fun t ht hW => ⟨⟨some (vI x), M, rfl, hq, o3, fun v hv => by cases hv; trivial, by rw [ht]; exact hP⟩, hS.F ht⟩) hS.2.2 hd x7
theorem w_zret {x : Int32} (hd : decode (mB m) pc = .ok (.ireturn, 1)) (hm : mR m = some .boolean) (hx : x = 0 ∨ x = 1) (hq : Q (some (vI x)) M) : Wp E d m pc ls [vI x] M Q := by
  intro p e s mid args below meth c H locs js F hP hS hl o1 o2 o3
  obtain ⟨x1, x2, x3, x4, x5, x6, x7, x8⟩ := F
  exact W.zret (v := x) (ty := .boolean) x1 x2 (x4.trans hm) (by rcases hx with rfl | rfl <;> rfl) (fun t ht hW => ⟨⟨some (vI x), M, rfl, hq, o3, fun v hv => by cases hv; trivial, by rw [ht]; exact hP⟩, hS.F ht⟩) hS.2.2 hd x7
theorem w_lret {x : Int64} (hd : decode (mB m) pc = .ok (.lreturn, 1)) (hm : mR m = some .long) (hq : Q (some (vJ x)) M) : Wp E d m pc ls [vJ x] M Q := by
  intro p e s mid args below meth c H locs js F hP hS hl o1 o2 o3
  obtain ⟨x1, x2, x3, x4, x5, x6, x7, x8⟩ := F
  exact W.lret (v := x) x1 x2 (x4.trans hm) (fun t ht hW => ⟨⟨some (vJ x), M, rfl, hq, o3, fun v hv => by cases hv; trivial, by rw [ht]; exact hP⟩, hS.F ht⟩) hS.2.2 hd x7
theorem w_vret (hd : decode (mB m) pc = .ok (.return_, 1)) (hm : mR m = none) (hq : Q none M) : Wp E d m pc ls [] M Q := by
  intro p e s mid args below meth c H locs js F hP hS hl o1 o2 o3
  obtain ⟨x1, x2, x3, x4, x5, x6, x7, x8⟩ := F
  exact W.vret x1 x2 (x4.trans hm) (fun t ht hW => ⟨⟨none, M, rfl, hq, o3, fun v hv => (by cases hv), by rw [ht]; exact hP⟩, hS.F ht⟩) hS.2.2 hd x7
/-- behind a call -/
theorem w_after {p : Program} {e : Env} {R : Room} {s : State} {mid : MethodId} {args : Array Value} {below : List Frame} {meth : Method} {c : Code} {H : Heap} {locs : List Loc} {js : Array Slot} {st0 rest : List Value} {Qm : State → Prop} {a : Array Value} {Q' : Option AV → Me → Prop}
    (hr : va_Run p (eL E) e R s mid args below meth c H locs 0 0 0 0 (F0 mid pc js st0) rest (Qc E Q' a) (AA E)) (hS : va_S (AA E) s.heap H locs)
    (kk : ∀ (r : Option AV) (M' : Me) (H1 : Heap) (locs1 : List Loc), Q' r M' → okMe M' → (∀ v, r = some v → okV v) → va_P (eG E) vwCl (wsE E M') H1 → va_S (AA E) s.heap H1 locs1 → W p (eL E) e R s mid args below meth c H1 locs1 0 0 Qm (F0 mid (pc + 3) js ((r.map (cv E)).toList ++ rest))) :
    W p (eL E) e R s mid args below meth c H locs 0 0 Qm (F0 mid pc js st0) := by
  intro T hT X
  obtain ⟨v, st₀, t, T', L, h0, X', hL, e1, e2, ⟨⟨r, M', hv, hq, hm, hr', hp⟩, hz, hkk⟩, stp⟩ := hr T hT X
  cases hv
  rw [h0] at hz hkk
  obtain ⟨t2, a1, b1⟩ := kk r M' T'.heap (locs ++ L) hq hm hr' (by rw [e1]; exact hp)
    ⟨Nat.le_trans hS.1 (by rw [e1]; exact hz), fun q h1 h2 => by rw [e1, hkk q (Nat.lt_of_lt_of_le h1 hS.1) h2]; exact hS.2.1 q h1 h2, fun q hq => by
      rcases List.mem_append.mp hq with h | h
      · exact hS.2.2 q h
      · exact hL q h⟩ T' rfl X'
  exact ⟨t2, stp t2 a1, b1⟩
theorem blind {as : List AV} : FrameBlind (Pcm E as M) := fun a U g mk q => ⟨q.1, CK_same q.2.1 rfl rfl, q.2.2⟩
theorem pre_at {as : List AV} {s : State} {H : Heap} {locs : List Loc} (hC : CK E s) (hP : va_P (eG E) vwCl (wsE E M) H) (hS : va_S (AA E) s.heap H locs) : ∀ U : State, U.heap = H → s.WarmedH U.vm → Pcm E as M (as.map (cv E)).toArray U := fun U hU hW => ⟨rfl, CK_warm hC hW (fun a h1 h2 => by rw [hU]; exact hS.2.1 a h1 h2), by rw [hU]; exact hP⟩
theorem rcv_cell {m' : MC} {i r : Nat} {s : State} {H : Heap} {locs : List Loc} (hC : CK E s) (hP : va_P (eG E) vwCl (wsE E M) H) (hS : va_S (AA E) s.heap H locs) (hr : r < rn i) (hn : cnm (mO m') = (mN m').cls) (h : rcvOK m' (vP i r) = true) : ∃ cellB : Cell, H[eA E i r]? = some cellB ∧ cellB.vm.isStatics = false ∧ s.vm.findClass (mN m').cls = some cellB.cls := by
  simp only [rcvOK, Bool.or_eq_true, Bool.and_eq_true] at h
  rcases h with ⟨h1, h2⟩ | ⟨h1, h2, h3, h4⟩
  · have h1 := Nat.beq_eq.mp h1
    have h2 := Nat.beq_eq.mp h2
    have hc := lay_cls h1
    obtain ⟨q0, -, hq⟩ := wsE_at E M (ly_lt (by rw [h1]; decide)) hr
    rw [cell_obj h1] at hq
    have h5 := va_recv hC.2.1 hP (cls_at _ hc) hq
    rw [← hn, ← h2, cnm_cls _ hc]
    exact h5
  · have h1 := Nat.beq_eq.mp h1
    have h2 := Nat.le_of_ble_eq_true h2
    have h3 := Nat.blt_eq.mp h3
    have h4 := Nat.beq_eq.mp h4
    have h4 : r = 0 := h4
    subst h4
    have h5 := vk_recv (i := i - 300) hC.2.2.2.2.1 (by omega) hS
    have hi : 300 + (i - 300) = i := by omega
    simp only [hi] at h5
    rw [← hn, h1]
    exact h5
theorem app_take {st : List AV} {n : Nat} : st.map (cv E) = ((((st.take n).reverse).map (cv E)).reverse) ++ (st.drop n).map (cv E) := by
  rw [← List.map_reverse, List.reverse_reverse, ← List.map_append, List.take_append_drop]
theorem ok_drop {st : List AV} {n : Nat} (h : okSt st) : okSt (st.drop n) := fun v hv => h v (List.mem_of_mem_drop hv)
theorem ok_take {st : List AV} {n : Nat} (h : okSt st) : okSt (st.take n).reverse := fun v hv => h v (List.mem_of_mem_take (List.mem_reverse.mp hv))
theorem mw_plain {o ix a : Nat} (h : mWord (o, ix, a, 0) ∈ lw_tbl) : Cond.methodLink (cnm o) ix (mN (mth a)) ∈ TW := tw_in h rfl
theorem mw_nest {o ix a b : Nat} (hb : ¬ b = 0) (h : mWord (o, ix, a, b) ∈ lw_tbl) : Cond.methodLinkNest (cnm o) ix (mN (mth a)) "ChannelSqueeze" ∈ NWl := by
  have e : Nat.beq b 0 = false := by
    cases e : Nat.beq b 0 with
    | false => rfl
    | true => exact absurd (Nat.beq_eq.mp e) hb
  unfold mWord at h
  simp only [e, cond_false] at h
  exact nw_in h rfl
theorem room_ok {d' n : Nat} (h : d' < d) (hn : n < 40) : (rmd d').frames + 1 ≤ (rmd d).frames ∧ 8 + (n + 11) + (rmd d').locals ≤ (rmd d).locals := by
  refine ⟨h, ?_⟩
  show 8 + (n + 11) + 64 * d' ≤ 64 * d
  omega
/-- an instance method is called -/
theorem w_callv {ix a b n d' : Nat} {Q' : Option AV → Me → Prop} {v : AV} {as' : List AV} (hd : decode (mB m) pc = .ok (.invokevirtual ix, 3)) (hlk : mlk.any (fun z => decide (z.1 = (mO m, ix, a, b))) = true) (hst : mSt (mth a) = 0) (hn : n = mNa (mth a) + 1) (hcode : codeW (mth a) ∈ TW)
    (has : (st.take n).reverse = v :: as') (hl1 : as'.length + 1 = n) (hrc : rcvOK (mth a) v = true) (hcat : cats (st.drop n) ≤ 8) (hdd : d' < d) (hM : Mt E d' (mth a) (v :: as') M Q')
    (hk : ∀ r M', Q' r M' → Wp E d m (pc + 3) ls (r.toList ++ st.drop n) M' Q) : Wp E d m pc ls st M Q := by
  obtain ⟨hy, hw⟩ := mlk_at hlk
  obtain ⟨y1, y2, y3, y4, y5, y6, y7⟩ := okY_all hy
  intro p e s mid args below meth c H locs js F hP hS hl o1 o2 o3
  have F' := F
  obtain ⟨x1, x2, x3, x4, x5, x6, x7, x8⟩ := F
  match v, has, hrc, hM with
  | .inr (.inr (i, r)), has, hrc, hM =>
    have ho := ok_take (n := n) o1
    rw [has] at ho
    have hM := hM ho o3
    have hr : r < rn i := okSt_hd ho
    have hG : GoodIn TW (codeW (mth a) :: TW) := fun w hw => (List.mem_cons.mp hw).elim (fun e => by rw [e]; exact tw_good _ hcode) (fun h => tw_good w h)
    have hstk : (F0 mid pc js (st.map (cv E))).stack = (as'.map (cv E)).reverse ++ .ref (eA E i r) :: (st.drop n).map (cv E) := by
      show st.map (cv E) = _
      rw [app_take (E := E) (st := st) (n := n), has]
      show ((cv E (vP i r) :: as'.map (cv E)).reverse) ++ _ = _
      rw [List.reverse_cons, List.append_assoc]
      rfl
    have kk : ∀ (r1 : Option AV) (M' : Me) (H1 : Heap) (locs1 : List Loc), Q' r1 M' → okMe M' → (∀ v, r1 = some v → okV v) → va_P (eG E) vwCl (wsE E M') H1 → va_S (AA E) s.heap H1 locs1 → W p (eL E) e (rmd d) s mid args below meth c H1 locs1 0 0 (MQ below (Qc E Q) args s 0 0 (AA E)) (F0 mid (pc + 3) js ((r1.map (cv E)).toList ++ (st.drop n).map (cv E))) := by
      intro r1 M' H1 locs1 q1 q2 q3 q4 q5
      have h9 := hk r1 M' q1 p e s mid args below meth c H1 locs1 js F' q4 q5 hl (by
        intro u hu
        rcases List.mem_append.mp hu with hu | hu
        · exact q3 u (by cases r1 with
            | none => cases hu
            | some z => rw [List.mem_singleton.mp hu])
        · exact ok_drop o1 u hu) o2 q2
      rw [List.map_append] at h9
      have e9 : r1.toList.map (cv E) = (r1.map (cv E)).toList := by cases r1 <;> rfl
      rw [e9] at h9
      exact h9
    have hCF : CallFix p mid c (mB m) (mL m) s args TW (cnm (mO m)) := ⟨x1, x2, x3, x5, x6⟩
    by_cases hb : b = 0
    · subst hb
      exact w_after (va_runV (As := as'.map (cv E)) (C := (mN (mth a)).cls) hCF hM ⟨callB_of (mNa (mth a)) x6 hG rfl rfl rfl (x6 _ y1) (x6 _ (mw_plain hw)) y4 (room_ok hdd y6), x6 _ (y2 hst).1, x6 _ (y2 hst).2⟩ ⟨blind, rcv_cell x8 hP hS hr y7 hrc, pre_at x8 hP hS⟩ rfl (by rw [List.length_map]; omega) hl.1 hstk (lv_room (by rw [cats_eq]; exact hcat)) hd ⟨Nat.le_refl _, Nat.le_refl _⟩) hS kk
    · exact w_after (va_runVN (As := as'.map (cv E)) (C := (mN (mth a)).cls) hCF hM ⟨va_cnB (mNa (mth a)) x6 hG rfl rfl rfl (x8.2.2.1 _ (mw_nest hb hw)) (x6 _ y1) y4 (room_ok hdd y6), x6 _ (y2 hst).1, x6 _ (y2 hst).2⟩ ⟨blind, rcv_cell x8 hP hS hr y7 hrc, pre_at x8 hP hS⟩ rfl (by rw [List.length_map]; omega) hl.1 hstk (lv_room (by rw [cats_eq]; exact hcat)) hd ⟨Nat.le_refl _, Nat.le_refl _⟩) hS kk
  | .inl x, _, hrc, _ => cases hrc
  | .inr (.inl x), _, hrc, _ => cases hrc
/-- a static method is called -/
theorem w_calls {ix a b n d' : Nat} {Q' : Option AV → Me → Prop} (hd : decode (mB m) pc = .ok (.invokestatic ix, 3)) (hlk : mlk.any (fun z => decide (z.1 = (mO m, ix, a, b))) = true) (hst : ¬ mSt (mth a) = 0) (hn : n = mNa (mth a)) (hcode : codeW (mth a) ∈ TW)
    (hl1 : n ≤ st.length) (hcat : cats (st.drop n) ≤ 8) (hdd : d' < d) (hM : Mt E d' (mth a) ((st.take n).reverse) M Q')
    (hk : ∀ r M', Q' r M' → Wp E d m (pc + 3) ls (r.toList ++ st.drop n) M' Q) : Wp E d m pc ls st M Q := by
  obtain ⟨hy, hw⟩ := mlk_at hlk
  obtain ⟨y1, y2, y3, y4, y5, y6, y7⟩ := okY_all hy
  intro p e s mid args below meth c H locs js F hP hS hl o1 o2 o3
  have F' := F
  obtain ⟨x1, x2, x3, x4, x5, x6, x7, x8⟩ := F
  have ho := ok_take (n := n) o1
  have hM := hM ho o3
  have hG : GoodIn TW (codeW (mth a) :: TW) := fun w hw => (List.mem_cons.mp hw).elim (fun e => by rw [e]; exact tw_good _ hcode) (fun h => tw_good w h)
  have hstk : (F0 mid pc js (st.map (cv E))).stack = (((st.take n).reverse).map (cv E)).reverse ++ (st.drop n).map (cv E) := app_take
  have kk : ∀ (r1 : Option AV) (M' : Me) (H1 : Heap) (locs1 : List Loc), Q' r1 M' → okMe M' → (∀ v, r1 = some v → okV v) → va_P (eG E) vwCl (wsE E M') H1 → va_S (AA E) s.heap H1 locs1 → W p (eL E) e (rmd d) s mid args below meth c H1 locs1 0 0 (MQ below (Qc E Q) args s 0 0 (AA E)) (F0 mid (pc + 3) js ((r1.map (cv E)).toList ++ (st.drop n).map (cv E))) := by
    intro r1 M' H1 locs1 q1 q2 q3 q4 q5
    have h9 := hk r1 M' q1 p e s mid args below meth c H1 locs1 js F' q4 q5 hl (by
      intro u hu
      rcases List.mem_append.mp hu with hu | hu
      · exact q3 u (by cases r1 with
          | none => cases hu
          | some z => rw [List.mem_singleton.mp hu])
      · exact ok_drop o1 u hu) o2 q2
    rw [List.map_append] at h9
    have e9 : r1.toList.map (cv E) = (r1.map (cv E)).toList := by cases r1 <;> rfl
    rw [e9] at h9
    exact h9
  have hCF : CallFix p mid c (mB m) (mL m) s args TW (cnm (mO m)) := ⟨x1, x2, x3, x5, x6⟩
  have hlen : (((st.take n).reverse).map (cv E)).length = mNa (mth a) := by
    rw [List.length_map, List.length_reverse, List.length_take]; omega
  by_cases hb : b = 0
  · subst hb
    exact w_after (va_runS (As := ((st.take n).reverse).map (cv E)) hCF hM ⟨callB_of (mNa (mth a)) x6 hG rfl rfl rfl (x6 _ y1) (x6 _ (mw_plain hw)) y4 (room_ok hdd y6), x6 _ (y3 hst)⟩ ⟨blind, pre_at x8 hP hS⟩ rfl hlen hl.1 hstk (lv_room (by rw [cats_eq]; exact hcat)) hd ⟨Nat.le_refl _, Nat.le_refl _⟩) hS kk
  · exact w_after (va_runSN (As := ((st.take n).reverse).map (cv E)) hCF hM ⟨va_cnB (mNa (mth a)) x6 hG rfl rfl rfl (x8.2.2.1 _ (mw_nest hb hw)) (x6 _ y1) y4 (room_ok hdd y6), x6 _ (y3 hst), trivial⟩ ⟨blind, pre_at x8 hP hS⟩ rfl hlen hl.1 hstk (lv_room (by rw [cats_eq]; exact hcat)) hd ⟨Nat.le_refl _, Nat.le_refl _⟩) hS kk
theorem w_max {ix : Nat} {x y : Int32} (hd : decode (mB m) pc = .ok (.invokestatic ix, 3)) (hlk : xlk.any (fun z => decide (z.1 = (mO m, ix, 2))) = true) (h0 : 0 < d) (hcat : cats st ≤ 8) (hk : Wp E d m (pc + 3) ls (vI (if x < y then y else x) :: st) M Q) : Wp E d m pc ls (vI y :: vI x :: st) M Q := by
  have hw := xlk_at hlk
  intro p e s mid args below meth c H locs js F hP hS hl o1 o2 o3
  have kk := hk p e s mid args below meth c H locs js F hP hS hl (okSt_cons trivial (okSt_tl (okSt_tl o1))) o2 o3
  obtain ⟨x1, x2, x3, x4, x5, x6, x7, x8⟩ := F
  exact va_mmax (R := rmd d) x1 x2 (x3.trans hl.1.symm) x5 (x6 _ (tw_in hw rfl)) (x6 _ (tw_mem _ xw_st2 rfl)) (x6 _ (tw_mem _ xw_in rfl)) (x6 _ (tw_mem _ xw_c2 rfl)) h0 (by rw [cats_eq]; show cats st + 13 ≤ 64 * d; omega) (Nat.le_refl _) (Nat.le_refl _) hd kk
theorem w_min {ix : Nat} {x y : Int32} (hd : decode (mB m) pc = .ok (.invokestatic ix, 3)) (hlk : xlk.any (fun z => decide (z.1 = (mO m, ix, 3))) = true) (h0 : 0 < d) (hcat : cats st ≤ 8) (hk : Wp E d m (pc + 3) ls (vI (if y < x then y else x) :: st) M Q) : Wp E d m pc ls (vI y :: vI x :: st) M Q := by
  have hw := xlk_at hlk
  intro p e s mid args below meth c H locs js F hP hS hl o1 o2 o3
  have kk := hk p e s mid args below meth c H locs js F hP hS hl (okSt_cons trivial (okSt_tl (okSt_tl o1))) o2 o3
  obtain ⟨x1, x2, x3, x4, x5, x6, x7, x8⟩ := F
  exact va_mmin (R := rmd d) x1 x2 (x3.trans hl.1.symm) x5 (x6 _ (tw_in hw rfl)) (x6 _ (tw_mem _ xw_st3 rfl)) (x6 _ (tw_mem _ xw_in rfl)) (x6 _ (tw_mem _ xw_c3 rfl)) h0 (by rw [cats_eq]; show cats st + 13 ≤ 64 * d; omega) (Nat.le_refl _) (Nat.le_refl _) hd kk
end SC
