/-! constructors: a judgement of their own, over the list of cells made since a base address -/
def CK0 (E : EV) (U : State) : Prop := va_K (eG E) vwCl (tysE E) U ∧ (∀ w ∈ NWl, va_Nw w U) ∧ QK (eQ E) (eI E) U
theorem CK0_warm {E : EV} {s U : State} (h : CK0 E s) (hW : s.WarmedH U.vm) : CK0 E U := ⟨va_K.moved hW.alike h.1, fun w hw => nw_warm (List.mem_filter.mp hw).2 hW (h.2.1 w hw), h.2.2.moved hW.alike⟩
theorem CK0_same {E : EV} {u U : State} (h : CK0 E u) (hv : u.vm = U.vm) : CK0 E U := by
  have ha : u.vm.Alike U.vm := by rw [hv]; exact Vm.Alike.refl _
  exact ⟨va_K.moved ha h.1, fun w hw => nw_same (List.mem_filter.mp hw).2 hv (h.2.1 w hw), h.2.2.moved ha⟩
/-- the cells a0, a0 + 1 .. and nothing behind them -/
def CW (E : EV) (a0 n : Nat) (ws : va_W) (H : Heap) : Prop := ws.length = n ∧ H.size = a0 + n ∧ va_P (eG E) vwCl ws H ∧ ∀ k q, ws[k]? = some q → q.1 = a0 + k
def up0 (a0 : Nat) : Nat → Prop := fun q => a0 ≤ q
theorem CW_D {E : EV} {a0 n : Nat} {ws : va_W} {H : Heap} (h : CW E a0 n ws H) : va_D (up0 a0) ws := by
  obtain ⟨-, -, -, h4⟩ := h
  refine ⟨fun i j p q hp hq e => ?_, fun k q hq => ?_⟩
  · have h1 := h4 i p hp
    have h2 := h4 j q hq
    omega
  · have h1 := h4 k q hq
    show a0 ≤ q.1
    omega
theorem CW_app {E : EV} {a0 n : Nat} {ws : va_W} {x : va_E} {H H1 : Heap} (h : CW E a0 n ws H) (hz : H1.size = a0 + n + 1) (hx : va_at (eG E) vwCl (a0 + n, x) H1) (hq : ∀ q, q < a0 + n → H1[q]? = H[q]?) : CW E a0 (n + 1) (ws ++ [(a0 + n, x)]) H1 := by
  obtain ⟨h1, h2, h3, h4⟩ := h
  refine ⟨by rw [List.length_append, h1]; rfl, by omega, (h3.kept (fun k q hk => ?_)).app (fun k q hk => ?_), fun k q hk => ?_⟩
  · have := h4 k q hk
    have hl := (List.getElem?_eq_some_iff.mp hk).1
    exact hq q.1 (by omega)
  · cases k with
    | zero => cases hk; exact hx
    | succ k => cases hk
  · by_cases hl : k < ws.length
    · rw [List.getElem?_append_left hl] at hk
      exact h4 k q hk
    · rw [List.getElem?_append_right (by omega)] at hk
      have hz : k - ws.length < 1 := (List.getElem?_eq_some_iff.mp hk).1
      rw [show k - ws.length = 0 by omega] at hk
      cases hk
      show a0 + n = a0 + k
      omega
def QcN (E : EV) (a0 n : Nat) (res : va_W) : Array Value → State → Outcome → State → Prop := fun _ st oc t => (oc = .returned none ∧ CW E a0 n res t.heap) ∧ va_F (up0 a0) st t
/-- the surroundings of a constructor's frame -/
def CX (E : EV) (p : Program) (s : State) (mid : MethodId) (args : Array Value) (meth : Method) (c : Code) (cc : ByteArray) (nL : Nat) (ci : Nat) : Prop :=
  p.tables.exec = Jvm.exec ∧ c.code = cc ∧ c.maxLocals = nL ∧ meth.sig.returnType = none ∧ s.vm.findClass (clsC ci) = some mid.cls ∧ (∀ w ∈ TW, w.before args s = true) ∧ meth.locks = false ∧ meth.name = "<init>" ∧ CK0 E s
section CJ
variable {E : EV} {R : Room} {p : Program} {e : Env} {s : State} {mid : MethodId} {args : Array Value} {below : List Frame} {meth : Method} {c : Code} {cc : ByteArray} {nL ci : Nat} {a0 : Nat} {js : Array Slot} {Z : State → Prop} {pc : Nat} {st : List Value} {n : Nat} {ws : va_W} {cells slots : Nat}
def Cj (E : EV) (R : Room) (p : Program) (e : Env) (s : State) (mid : MethodId) (args : Array Value) (below : List Frame) (meth : Method) (c : Code) (a0 : Nat) (js : Array Slot) (Z : State → Prop) (pc : Nat) (st : List Value) (n : Nat) (ws : va_W) (cells slots : Nat) : Prop :=
  ∀ (H : Heap) (locs : List Loc), CW E a0 n ws H → va_S (up0 a0) s.heap H locs → W p (eL E) e R s mid args below meth c H locs cells slots Z (F0 mid pc js st)
theorem j_aload {k : Fin 4} {a : Nat} (X : CX E p s mid args meth c cc nL ci) (hd : decode cc pc = .ok (.aload_n k, 1)) (hv : js[k.val]? = some (.val (.ref a))) (kk : Cj E R p e s mid args below meth c a0 js Z (pc + 1) (.ref a :: st) n ws cells slots) : Cj E R p e s mid args below meth c a0 js Z pc st n ws cells slots := fun H locs h1 h2 => lv_aload_n X.1 X.2.1 hd rfl hv (kk H locs h1 h2)
theorem j_iload {k : Fin 4} {x : Int32} (X : CX E p s mid args meth c cc nL ci) (hd : decode cc pc = .ok (.iload_n k, 1)) (hv : js[k.val]? = some (.val (.int x))) (kk : Cj E R p e s mid args below meth c a0 js Z (pc + 1) (.int x :: st) n ws cells slots) : Cj E R p e s mid args below meth c a0 js Z pc st n ws cells slots := fun H locs h1 h2 => lv_iload_n X.1 X.2.1 hd rfl hv (kk H locs h1 h2)
theorem j_iconst {v : Int} {x : Int32} (X : CX E p s mid args meth c cc nL ci) (hd : decode cc pc = .ok (.iconst v, 1)) (hv : Int32.ofInt v = x) (kk : Cj E R p e s mid args below meth c a0 js Z (pc + 1) (.int x :: st) n ws cells slots) : Cj E R p e s mid args below meth c a0 js Z pc st n ws cells slots := fun H locs h1 h2 => lv_iconst X.1 X.2.1 hd hv (kk H locs h1 h2)
theorem j_bipush {v : Int} {x : Int32} (X : CX E p s mid args meth c cc nL ci) (hd : decode cc pc = .ok (.bipush v, 2)) (hv : (Int8.ofInt v).toInt32 = x) (kk : Cj E R p e s mid args below meth c a0 js Z (pc + 2) (.int x :: st) n ws cells slots) : Cj E R p e s mid args below meth c a0 js Z pc st n ws cells slots := fun H locs h1 h2 => lv_bipush X.1 X.2.1 hd hv (kk H locs h1 h2)
theorem j_sipush {v : Int} {x : Int32} (X : CX E p s mid args meth c cc nL ci) (hd : decode cc pc = .ok (.sipush v, 3)) (hv : (Int16.ofInt v).toInt32 = x) (kk : Cj E R p e s mid args below meth c a0 js Z (pc + 3) (.int x :: st) n ws cells slots) : Cj E R p e s mid args below meth c a0 js Z pc st n ws cells slots := fun H locs h1 h2 => lv_sipush X.1 X.2.1 hd hv (kk H locs h1 h2)
theorem jw_118 : Cond.instanceMethod Lib.objectInit ∈ TW := tw_mem 119 (by decide +kernel) rfl
theorem jw_119 : Cond.code Lib.objectInit ⟨#[0xb1]⟩ 1 none ∈ TW := tw_mem 120 (by decide +kernel) rfl
theorem j_obj {ix : Nat} {a : Nat} (X : CX E p s mid args meth c cc nL ci) (hjs : js.size = nL) (hw : Cond.methodLink (clsC ci) ix Lib.objectInit ∈ TW) (hd : decode cc pc = .ok (.invokespecial ix, 3)) (hf : 1 ≤ R.frames) (hr : (st.map fun v => v.category).sum + 12 ≤ R.locals) (kk : Cj E R p e s mid args below meth c a0 js Z (pc + 3) st n ws cells slots) : Cj E R p e s mid args below meth c a0 js Z pc (.ref a :: st) n ws cells slots := by
  obtain ⟨x1, x2, x3, x4, x5, x6, x7, x8, x9⟩ := X
  intro H locs h1 h2
  exact W.objInit x1 x2 x5 (x6 _ hw) (x6 _ jw_118) (x6 _ jw_119) (g := F0 mid pc js (.ref a :: st)) rfl (hjs.trans x3.symm) rfl hd hf (by show 2 * 0 + _ + 12 ≤ _; omega) (kk H locs h1 h2)
/-- a field of this, written -/
theorem j_put {ix k : Nat} {fs : List Value} {tl : va_W} {v : Value} (X : CX E p s mid args meth c cc nL ci) (hci : ci < 11) (hk : k < nf ci) (hl : fs.length = nf ci) (h3 : (clsT ci k).1 = clsC ci) (hw : Cond.fieldLink (clsC ci) ix (clsC ci) (clsT ci k).2.1 (clsT ci k).2.2.1 ∈ TW) (hn : narrow (clsY ci k) v = v) (hfit : fits (clsY ci k) v = true) (hd : decode cc pc = .ok (.putfield ix, 3))
    (kk : Cj E R p e s mid args below meth c a0 js Z (pc + 3) st n ((a0, .inr (ci, fs.set k v)) :: tl) cells slots) : Cj E R p e s mid args below meth c a0 js Z pc (v :: .ref a0 :: st) n ((a0, .inr (ci, fs)) :: tl) cells slots := by
  obtain ⟨x1, x2, x3, x4, x5, x6, x7, x8, x9⟩ := X
  intro H locs hC hS0
  have hD := CW_D hC
  obtain ⟨c1, c2, hP, c4⟩ := hC
  have hK := x9.1
  have hc := cls_at _ hci
  have hts := x6
  have hin := tw_lays _ hci
  have he : ((a0, (.inr (ci, fs) : va_E)) :: tl)[0]? = some (a0, .inr (ci, fs)) := rfl
  have hap := va_apart (own := clsC ci) hts hin (clsY ci) (cls_ty _ hci) (cls_nm _ hci) hK hc
  obtain ⟨r, h1, cell, q1, q2, q3, q4⟩ := hP 0 _ he
  have hr : r = (clsC ci, clsT ci, nf ci) := Option.some.inj (h1.symm.trans hc)
  subst hr
  obtain ⟨hS, hfc, kC, hkC, hkind⟩ := hK.1 ci _ hc
  obtain ⟨cf, kf, fi, f, hi, hsl⟩ := hS k hk
  have hsame : s.fieldFound? (clsC ci) (clsT ci k).2.1 (clsT ci k).2.2.1 = some (cf, kf, fi, f) := by rw [← h3]; exact hi
  have hlay := hts _ (hin _ (u_in_lay hk))
  have hst := (u_facts hfc hkC (u_lays hts hin hk) hi).1
  have fin : ∀ (H' : Heap) (sl : Nat), H'[a0]? = some (cell.setSlot f.slot v) → H'.size = H.size → (∀ q, q ≠ a0 → H'[q]? = H[q]?) → W p (eL E) e R s mid args below meth c H' (locs ++ [⟨a0, sl⟩]) cells slots Z (F0 mid (pc + 3) js st) := by
    intro H' sl e1 e2 e3
    rw [hsl] at e1
    refine kk H' _ ⟨c1, by rw [e2]; exact c2, ?_, fun k9 q9 h9 => ?_⟩ (hS0.put e2 e3 (Nat.le_refl _))
    · exact hP.set hD he ⟨_, hc, t_OB.to (V := updV (vp_V fs) k v) ⟨_, e1, q2, q3, t_set q4 hap hk v⟩ (fun j _ => vp_updV_set (by rw [hl]; exact hk) v j)⟩ e3
    · cases k9 with
      | zero => cases h9; rfl
      | succ k9 => exact c4 (k9 + 1) q9 h9
  by_cases hfin : (clsT ci k).2.2.2 = true
  · unfold u_lay at hlay
    rw [if_pos hfin] at hlay
    have hcf : mid.cls = cf := by
      obtain ⟨_, _, c', _, _, _, -, -, hf', -, -, -, hown2, -⟩ := Cond.laysFinal_spec hlay
      have e1 : c' = cf := by have := hi.symm.trans hf'; simp at this; exact this.1.symm
      rw [h3] at hown2
      rw [← e1]; exact Option.some.inj (x5.symm.trans hown2)
    have h6 := u_fits hfc hkC hkind (Or.inr hlay) hi (cls_ty _ hci k hk) hn hfit
    exact W.putFinK x1 x2 x5 (x6 _ hw) hsame hst hcf x8 (by rw [q2]; exact h6) q1 q3 (by rw [hsl]; exact k2_hasslot (q4 k hk)) (g := F0 mid pc js (v :: .ref a0 :: st)) rfl rfl hd fun H' e1 e2 e3 => fin H' _ e1 e2 e3
  · unfold u_lay at hlay
    rw [if_neg hfin] at hlay
    have h6 := u_store hfc hkC hkind hlay hi (cls_ty _ hci k hk) hn hfit
    exact W.putK x1 x2 (f := f) ⟨x5, x6 _ hw, ⟨_, _, _, hsame⟩, hst⟩ (by rw [q2]; exact h6) q1 q3 (by rw [hsl]; exact k2_hasslot (q4 k hk)) (g := F0 mid pc js (v :: .ref a0 :: st)) rfl rfl hd fun H' e1 e2 e3 => fin H' _ e1 e2 e3
/-- a field of this, read -/
theorem j_get {ix k : Nat} {fs : List Value} {v : Value} (X : CX E p s mid args meth c cc nL ci) (he : ws[0]? = some (a0, .inr (ci, fs))) (hci : ci < 11) (hk : k < nf ci) (h3 : (clsT ci k).1 = clsC ci) (hw : Cond.fieldLink (clsC ci) ix (clsC ci) (clsT ci k).2.1 (clsT ci k).2.2.1 ∈ TW) (hv : fs[k]? = some v) (hd : decode cc pc = .ok (.getfield ix, 3))
    (kk : Cj E R p e s mid args below meth c a0 js Z (pc + 3) (v :: st) n ws cells slots) : Cj E R p e s mid args below meth c a0 js Z pc (.ref a0 :: st) n ws cells slots := by
  obtain ⟨x1, x2, x3, x4, x5, x6, x7, x8, x9⟩ := X
  intro H locs hC hS0
  exact va_get (T := clsT ci) (C := clsC ci) x1 x2 x6 (tw_lays _ hci) x5 x9.1 hC.2.2.1 0 he (cls_at _ hci) k hk (x6 _ hw) (fun z hz => by rw [h3] at hz; exact hz) hv hd (kk H locs hC hS0)
/-- an array of numbers -/
theorem j_newa {atype : ArrayType} {x : Int32} {N t0 : Nat} {cA : ClassId} {ty : FieldType} {a1 : vp_A} (X : CX E p s mid args meth c cc nL ci) (hty : newarray.typeOf atype = ty) (harr : Cond.arrayClass ty ∈ TW) (ht : (tysE E)[t0]? = some (cA, ty)) (ha : vp_cell cA a1 = arrV cA N (fun _ => defaultValue ty)) (hra : ∀ U, va_RA U cA ty → U.vm.findClass ("[" ++ ty.toString) = some cA) (hn : ¬ x < 0) (hN : x.toNatClampNeg = N) (hb : N * componentBytes ty ≤ 536870912) (hc : cells + 1 ≤ R.cells) (hs : slots + N ≤ R.slots) (hd : decode cc pc = .ok (.newarray atype, 2))
    (kk : Cj E R p e s mid args below meth c a0 js Z (pc + 2) (.ref (a0 + n) :: st) (n + 1) (ws ++ [(a0 + n, .inl (cA, a1))]) (cells + 1) (slots + N)) : Cj E R p e s mid args below meth c a0 js Z pc (.int x :: st) n ws cells slots := by
  subst hty
  obtain ⟨x1, x2, x3, x4, x5, x6, x7, x8, x9⟩ := X
  intro H locs hC hS0
  refine va_newaK x1 x2 (x6 _ harr) (g := F0 mid pc js (.int x :: st)) rfl hd rfl hn hN hb hc hs hC.2.1 fun H1 cB e1 z1 o1 hAr hNm => ?_
  have e9 : cB = cA := Option.some.inj (hNm.symm.trans (hra s (x9.1.2 t0 _ ht).2))
  subst e9
  refine kk H1 locs (CW_app hC z1 ?_ o1) ⟨Nat.le_trans hS0.1 (by rw [hC.2.1, z1]; omega), fun q h1 h2 => (o1 q (Nat.lt_of_lt_of_le h1 (by rw [← hC.2.1]; exact hS0.1))).trans (hS0.2.1 q h1 h2), hS0.2.2⟩
  show H1[a0 + n]? = some (vp_cell cB a1)
  rw [ha]
  exact e1
end CJ
