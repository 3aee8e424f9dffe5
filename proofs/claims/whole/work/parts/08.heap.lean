/-! fields, arrays, constants, switches -/
theorem getF_sI {M : Me} {i r k : Nat} {x : Int32} {a b c : Nat} (h : (a, b) ≠ (i, r)) : getF (sI M i r k x) a b c = getF M a b c := by
  unfold getF sI
  simp only [up3_row h]
theorem getF_sJ {M : Me} {i r k : Nat} {x : Int64} {a b c : Nat} (h : (a, b) ≠ (i, r)) : getF (sJ M i r k x) a b c = getF M a b c := by
  unfold getF sJ
  simp only [up3_row h]
theorem getF_sG {M : Me} {i r k x : Nat} {a b c : Nat} (h : (a, b) ≠ (i, r)) : getF (sG M i r k x) a b c = getF M a b c := by
  unfold getF sG
  simp only [up3_row h]
theorem cellE_sI {E : EV} {M : Me} {i r k : Nat} {x : Int32} {q : Nat × Nat} (h : q ≠ (i, r)) : cellE E (sI M i r k x) q = cellE E M q := by
  unfold cellE
  simp only [getF_sI (a := q.1) (b := q.2) h]
  unfold sI
  simp only [up3_row (a := q.1) (b := q.2) h]
theorem cellE_sJ {E : EV} {M : Me} {i r k : Nat} {x : Int64} {q : Nat × Nat} (h : q ≠ (i, r)) : cellE E (sJ M i r k x) q = cellE E M q := by
  unfold cellE
  simp only [getF_sJ (a := q.1) (b := q.2) h]
  unfold sJ
  simp only [up3_row (a := q.1) (b := q.2) h]
theorem cellE_sG {E : EV} {M : Me} {i r k x : Nat} {q : Nat × Nat} (h : q ≠ (i, r)) : cellE E (sG M i r k x) q = cellE E M q := by
  unfold cellE
  simp only [getF_sG (a := q.1) (b := q.2) h]
  unfold sG
  rfl
theorem okMe_sI {M : Me} {i r k : Nat} {x : Int32} (h : okMe M) : okMe (sI M i r k x) := h
theorem okMe_sJ {M : Me} {i r k : Nat} {x : Int64} (h : okMe M) : okMe (sJ M i r k x) := h
theorem okMe_sG {M : Me} {i r k x : Nat} (h : okMe M) (hx : x < rn (tgt i k)) : okMe (sG M i r k x) := by
  intro a b c h1 h2
  show up3 M.2.2 i r k x a b c < _
  by_cases e : a = i ∧ b = r ∧ c = k
  · obtain ⟨rfl, rfl, rfl⟩ := e
    rw [up3_same]; exact hx
  · rw [up3_ne e]; exact h a b c h1 h2
theorem fs_len {E : EV} {M : Me} {i r : Nat} {n : Nat} : ((List.range n).map fun k => cv E (getF M i r k)).length = n := by simp
theorem fs_at {E : EV} {M : Me} {i r k n : Nat} (h : k < n) : ((List.range n).map fun k => cv E (getF M i r k))[k]? = some (cv E (getF M i r k)) := by
  rw [List.getElem?_map, List.getElem?_range h]
  rfl
theorem fs_set {E : EV} {M M' : Me} {i r k n : Nat} {v : AV} (h : k < n) (hv : getF M' i r k = v) (ho : ∀ c, c ≠ k → getF M' i r c = getF M i r c) : ((List.range n).map fun k => cv E (getF M i r k)).set k (cv E v) = (List.range n).map fun k => cv E (getF M' i r k) := by
  apply List.ext_getElem?
  intro a
  by_cases e : a = k
  · subst e
    rw [List.getElem?_set_self (by simp; exact h), fs_at h, hv]
  · rw [List.getElem?_set_ne (Ne.symm e), List.getElem?_map, List.getElem?_map]
    cases hq : (List.range n)[a]? with
    | none => rfl
    | some b =>
      have hb : b = a := by
        obtain ⟨h1, h2⟩ := List.getElem?_eq_some_iff.mp hq
        rw [← h2, List.getElem_range]
      subst hb
      simp only [Option.map_some, ho b e]
theorem cell_obj {E : EV} {M : Me} {i r : Nat} (h : (ly i).1 = 1) : cellE E M (i, r) = .inr ((ly i).2, (List.range (nf (ly i).2)).map fun k => cv E (getF M i r k)) := by
  unfold cellE
  simp only [h]
theorem cell_i {E : EV} {M : Me} {i r : Nat} (h : (ly i).1 = 2) : cellE E M (i, r) = .inl (eI E, (ly i).2, .inl (M.1 i r)) := by
  unfold cellE
  simp only [h]
theorem cell_b {E : EV} {M : Me} {i r : Nat} (h : (ly i).1 = 3) : cellE E M (i, r) = .inl (eB E, (ly i).2, .inl (M.1 i r)) := by
  unfold cellE
  simp only [h]
theorem cell_z {E : EV} {M : Me} {i r : Nat} (h : (ly i).1 = 4) : cellE E M (i, r) = .inl (eZ E, (ly i).2, .inl (M.1 i r)) := by
  unfold cellE
  simp only [h]
theorem cell_l {E : EV} {M : Me} {i r : Nat} (h : (ly i).1 = 5) : cellE E M (i, r) = .inl (eJ E, (ly i).2, .inr (.inl (M.2.1 i r))) := by
  unfold cellE
  simp only [h]
theorem cell_q {E : EV} {M : Me} {i r : Nat} (h : (ly i).1 = 6) : cellE E M (i, r) = .inl (eQ E, (ly i).2, .inr (.inr (.inr (.inr fun j => some (eA E (tgt i 0) (j + r * (ly i).2)))))) := by
  unfold cellE
  simp only [h]
theorem up3_upd {f : Nat → Nat → Nat → Int32} {i r k : Nat} {x : Int32} : up3 f i r k x i r = upd (f i r) k x := by
  funext c
  rw [up3_at]
  rfl
theorem up3_updL {f : Nat → Nat → Nat → Int64} {i r k : Nat} {x : Int64} : up3 f i r k x i r = vp_updL (f i r) k x := by
  funext c
  rw [up3_at]
  rfl
section SH
variable {E : EV} {d : Nat} {m : MC} {pc : Nat} {ls : List (Option AV)} {st : List AV} {M : Me} {Q : Option AV → Me → Prop}
theorem w_getfield {ix a b c0 i r : Nat} (hd : decode (mB m) pc = .ok (.getfield ix, 3)) (hf : flk.any (fun z => decide (z.1 = (mO m, ix, a, b, c0))) = true) (h1 : (ly i).1 = 1) (h2 : (ly i).2 = a) (hk : Wp E d m (pc + 3) ls (getF M i r b :: st) M Q) : Wp E d m pc ls (vP i r :: st) M Q := by
  subst h2
  obtain ⟨f1, f2, f3, f4⟩ := flk_at hf
  intro p e s mid args below meth c H locs js F hP hS hl o1 o2 o3
  have hr : r < rn i := okSt_hd o1
  have hi : i < 78 := ly_lt (by rw [h1]; decide)
  obtain ⟨q0, -, hq⟩ := wsE_at E M hi hr
  rw [cell_obj h1] at hq
  have kk := hk p e s mid args below meth c H locs js F hP hS hl (okSt_cons (okV_getF o3 h1 hr f2) (okSt_tl o1)) o2 o3
  obtain ⟨x1, x2, x3, x4, x5, x6, x7, x8⟩ := F
  by_cases hn : c0 = 0
  · subst hn
    exact va_get (T := clsT (ly i).2) (C := clsC (ly i).2) x1 x2 x6 (tw_lays _ f1) x5 x8.2.1 hP q0 hq (cls_at _ f1) b f2 (x6 _ (tw_in f4 rfl)) (fun z hz => by rw [f3] at hz; exact hz) (fs_at f2) hd kk
  · have hb : Nat.beq c0 0 = false := by
      cases hb : Nat.beq c0 0 with
      | false => rfl
      | true => exact absurd (Nat.beq_eq.mp hb) hn
    have f5 : Cond.fieldLinkNest (cnm (mO m)) ix (clsC (ly i).2) (clsT (ly i).2 b).2.1 (clsT (ly i).2 b).2.2.1 "ChannelSqueeze" ∈ lw_tbl := by
      have f4' := f4
      unfold fWord at f4'
      simp only [hb, cond_false] at f4'
      exact f4'
    exact va_getN (T := clsT (ly i).2) (C := clsC (ly i).2) x1 x2 x6 (tw_lays _ f1) x5 x8.2.1 hP q0 hq (cls_at _ f1) b f2 (va_Nw.use rfl (x8.2.2.1 _ (nw_in f5 rfl))) (fun z hz => by rw [f3] at hz; exact hz) (fs_at f2) hd kk
theorem w_putfield {ix a b c0 i r : Nat} {v : AV} {M' : Me} (hd : decode (mB m) pc = .ok (.putfield ix, 3)) (hf : flk.any (fun z => decide (z.1 = (mO m, ix, a, b, c0))) = true) (hfin : (clsT a b).2.2.2 = false) (h1 : (ly i).1 = 1) (h2 : (ly i).2 = a)
    (hnar : narrow (clsY a b) (cv E v) = cv E v) (hfit : fits (clsY a b) (cv E v) = true) (hM' : okMe M → okV v → okMe M') (hv : getF M' i r b = v) (ho : ∀ c, c ≠ b → getF M' i r c = getF M i r c) (hc : ∀ q, q ≠ (i, r) → cellE E M' q = cellE E M q)
    (hk : Wp E d m (pc + 3) ls st M' Q) : Wp E d m pc ls (v :: vP i r :: st) M Q := by
  subst h2
  obtain ⟨f1, f2, f3, f4⟩ := flk_at hf
  intro p e s mid args below meth c H locs js F hP hS hl o1 o2 o3
  have hr : r < rn i := okSt_hd (okSt_tl o1)
  have hi : i < 78 := ly_lt (by rw [h1]; decide)
  obtain ⟨q0, hpl, hq⟩ := wsE_at E M hi hr
  rw [cell_obj h1] at hq
  have hset : (wsE E M).set q0 (eA E i r, .inr ((ly i).2, ((List.range (nf (ly i).2)).map fun k => cv E (getF M i r k)).set b (cv E v))) = wsE E M' := wsE_set E hpl hc (by rw [cell_obj h1, fs_set f2 hv ho])
  have kk : ∀ (H1 : Heap) (locs1 : List Loc), va_P (eG E) vwCl ((wsE E M).set q0 (eA E i r, .inr ((ly i).2, ((List.range (nf (ly i).2)).map fun k => cv E (getF M i r k)).set b (cv E v)))) H1 → va_D (AA E) ((wsE E M).set q0 (eA E i r, .inr ((ly i).2, ((List.range (nf (ly i).2)).map fun k => cv E (getF M i r k)).set b (cv E v)))) → va_S (AA E) s.heap H1 locs1 → W p (eL E) e (rmd d) s mid args below meth c H1 locs1 0 0 (MQ below (Qc E Q) args s 0 0 (AA E)) (F0 mid (pc + 3) js (st.map (cv E))) := by
    intro H1 locs1 hP1 _ hS1
    rw [hset] at hP1
    exact hk p e s mid args below meth c H1 locs1 js F hP1 hS1 hl (okSt_tl (okSt_tl o1)) o2 (hM' o3 (okSt_hd o1))
  obtain ⟨x1, x2, x3, x4, x5, x6, x7, x8⟩ := F
  by_cases hn : c0 = 0
  · subst hn
    exact va_put (T := clsT (ly i).2) (C := clsC (ly i).2) (ty := clsY (ly i).2 b) (v := cv E v) x1 x2 x6 (tw_lays _ f1) (clsY (ly i).2) (cls_ty _ f1) (cls_nm _ f1) x5 x8.2.1 hP (wsE_D M x8.1) hS q0 hq (cls_at _ f1) b f2 (x6 _ (tw_in f4 rfl)) (fun z hz => by rw [f3] at hz; exact hz) hfin (cls_ty _ f1 b f2) hnar hfit (by rw [fs_len]; exact f2) hd kk
  · have hb : Nat.beq c0 0 = false := by
      cases hb : Nat.beq c0 0 with
      | false => rfl
      | true => exact absurd (Nat.beq_eq.mp hb) hn
    have f5 : Cond.fieldLinkNest (cnm (mO m)) ix (clsC (ly i).2) (clsT (ly i).2 b).2.1 (clsT (ly i).2 b).2.2.1 "ChannelSqueeze" ∈ lw_tbl := by
      have f4' := f4
      unfold fWord at f4'
      simp only [hb, cond_false] at f4'
      exact f4'
    exact va_putN (T := clsT (ly i).2) (C := clsC (ly i).2) (ty := clsY (ly i).2 b) (v := cv E v) x1 x2 x6 (tw_lays _ f1) (clsY (ly i).2) (cls_ty _ f1) (cls_nm _ f1) x5 x8.2.1 hP (wsE_D M x8.1) hS q0 hq (cls_at _ f1) b f2 (va_Nw.use rfl (x8.2.2.1 _ (nw_in f5 rfl))) (fun z hz => by rw [f3] at hz; exact hz) hfin (cls_ty _ f1 b f2) hnar hfit (by rw [fs_len]; exact f2) hd kk
theorem w_iaload {i r n : Nat} {j : Int32} (hd : decode (mB m) pc = .ok (.iaload, 1)) (h1 : ly i = (2, n)) (hj : vp_in j n) (hk : Wp E d m (pc + 1) ls (vI (M.1 i r j.toNatClampNeg) :: st) M Q) : Wp E d m pc ls (vI j :: vP i r :: st) M Q := by
  intro p e s mid args below meth c H locs js F hP hS hl o1 o2 o3
  have hr : r < rn i := okSt_hd (okSt_tl o1)
  obtain ⟨q0, -, hq⟩ := wsE_at E M (ly_lt (by rw [h1]; show (2 : Nat) ≠ 0; decide)) hr
  rw [cell_i (by rw [h1]), h1] at hq
  exact va_iald (f := M.1 i r) F.1 F.2.1 F.2.2.2.2.2.2.2.2.1 hP q0 0 hq rfl hj hd (hk p e s mid args below meth c H locs js F hP hS hl (okSt_cons trivial (okSt_tl (okSt_tl o1))) o2 o3)
theorem w_baload3 {i r n : Nat} {j : Int32} (hd : decode (mB m) pc = .ok (.baload, 1)) (h1 : ly i = (3, n)) (hj : vp_in j n) (hk : Wp E d m (pc + 1) ls (vI (M.1 i r j.toNatClampNeg) :: st) M Q) : Wp E d m pc ls (vI j :: vP i r :: st) M Q := by
  intro p e s mid args below meth c H locs js F hP hS hl o1 o2 o3
  have hr : r < rn i := okSt_hd (okSt_tl o1)
  obtain ⟨q0, -, hq⟩ := wsE_at E M (ly_lt (by rw [h1]; show (3 : Nat) ≠ 0; decide)) hr
  rw [cell_b (by rw [h1]), h1] at hq
  exact va_bald (f := M.1 i r) F.1 F.2.1 F.2.2.2.2.2.2.2.2.1 hP q0 1 hq rfl hj hd (hk p e s mid args below meth c H locs js F hP hS hl (okSt_cons trivial (okSt_tl (okSt_tl o1))) o2 o3)
theorem w_baload4 {i r n : Nat} {j : Int32} (hd : decode (mB m) pc = .ok (.baload, 1)) (h1 : ly i = (4, n)) (hj : vp_in j n) (hk : Wp E d m (pc + 1) ls (vI (M.1 i r j.toNatClampNeg) :: st) M Q) : Wp E d m pc ls (vI j :: vP i r :: st) M Q := by
  intro p e s mid args below meth c H locs js F hP hS hl o1 o2 o3
  have hr : r < rn i := okSt_hd (okSt_tl o1)
  obtain ⟨q0, -, hq⟩ := wsE_at E M (ly_lt (by rw [h1]; show (4 : Nat) ≠ 0; decide)) hr
  rw [cell_z (by rw [h1]), h1] at hq
  exact va_zald (f := M.1 i r) F.1 F.2.1 F.2.2.2.2.2.2.2.2.1 hP q0 2 hq rfl hj hd (hk p e s mid args below meth c H locs js F hP hS hl (okSt_cons trivial (okSt_tl (okSt_tl o1))) o2 o3)
theorem w_laload {i r n : Nat} {j : Int32} (hd : decode (mB m) pc = .ok (.laload, 1)) (h1 : ly i = (5, n)) (hj : vp_in j n) (hk : Wp E d m (pc + 1) ls (vJ (M.2.1 i r j.toNatClampNeg) :: st) M Q) : Wp E d m pc ls (vI j :: vP i r :: st) M Q := by
  intro p e s mid args below meth c H locs js F hP hS hl o1 o2 o3
  have hr : r < rn i := okSt_hd (okSt_tl o1)
  obtain ⟨q0, -, hq⟩ := wsE_at E M (ly_lt (by rw [h1]; show (5 : Nat) ≠ 0; decide)) hr
  rw [cell_l (by rw [h1]), h1] at hq
  exact va_lald (f := M.2.1 i r) F.1 F.2.1 F.2.2.2.2.2.2.2.2.1 hP q0 3 hq rfl hj hd (hk p e s mid args below meth c H locs js F hP hS hl (okSt_cons trivial (okSt_tl (okSt_tl o1))) o2 o3)
theorem clamp_lt {j : Int32} {n : Nat} (h : vp_in j n) : j.toNatClampNeg < n := Nat.not_le.mp fun q => h (Or.inr q)
theorem w_aaload {i r n : Nat} {j : Int32} (hd : decode (mB m) pc = .ok (.aaload, 1)) (h1 : ly i = (6, n)) (hj : vp_in j n) (hk : Wp E d m (pc + 1) ls (vP (tgt i 0) (j.toNatClampNeg + r * n) :: st) M Q) : Wp E d m pc ls (vI j :: vP i r :: st) M Q := by
  intro p e s mid args below meth c H locs js F hP hS hl o1 o2 o3
  have hr : r < rn i := okSt_hd (okSt_tl o1)
  have hlt := clamp_lt hj
  obtain ⟨q0, -, hq⟩ := wsE_at E M (ly_lt (by rw [h1]; show (6 : Nat) ≠ 0; decide)) hr
  rw [cell_q (by rw [h1]), h1] at hq
  have hrow : j.toNatClampNeg + r * n < rn (tgt i 0) := by
    have h6 : rn i * n ≤ rn (tgt i 0) := by
      have h6 := lay_row (i := i) (by rw [h1])
      rw [h1] at h6
      exact h6
    have h7 : (r + 1) * n ≤ rn i * n := Nat.mul_le_mul_right n hr
    rw [Nat.succ_mul] at h7
    omega
  have hK := F.2.2.2.2.2.2.2.2.1
  exact W.aald (v := .ref (eA E (tgt i 0) (j.toNatClampNeg + r * n))) (ty := .array .int) F.1 F.2.1 (hP q0 _ hq) ((hK.2 4 _ rfl).1 n (fun j => va_rf (some (eA E (tgt i 0) (j + r * n))))) rfl (fun q => by cases q) (by show ¬ (j < 0 ∨ (arrV _ _ _).slots.size ≤ _); rw [arrV_size]; exact hj) (by show (arrV _ _ _).slots[_]? = _; rw [arrV_read _ _ hlt]; rfl) rfl rfl hd (hk p e s mid args below meth c H locs js F hP hS hl (okSt_cons hrow (okSt_tl (okSt_tl o1))) o2 o3)
theorem w_iastore {i r n : Nat} {j x : Int32} (hd : decode (mB m) pc = .ok (.iastore, 1)) (h1 : ly i = (2, n)) (hj : vp_in j n) (hk : Wp E d m (pc + 1) ls st (sI M i r j.toNatClampNeg x) Q) : Wp E d m pc ls (vI x :: vI j :: vP i r :: st) M Q := by
  intro p e s mid args below meth c H locs js F hP hS hl o1 o2 o3
  have hr : r < rn i := okSt_hd (okSt_tl (okSt_tl o1))
  obtain ⟨q0, hpl, hq⟩ := wsE_at E M (ly_lt (by rw [h1]; show (2 : Nat) ≠ 0; decide)) hr
  rw [cell_i (by rw [h1]), h1] at hq
  refine va_iast (f := M.1 i r) F.1 F.2.1 F.2.2.2.2.2.2.2.2.1 hP (wsE_D M F.2.2.2.2.2.2.2.1) hS q0 0 hq rfl hj hd (fun H1 locs1 hP1 _ hS1 => ?_)
  rw [wsE_set E (M' := sI M i r j.toNatClampNeg x) hpl (fun q hq => cellE_sI hq) (by rw [cell_i (by rw [h1]), h1]; show Sum.inl (eI E, n, Sum.inl (up3 M.1 i r _ x i r)) = _; rw [up3_upd])] at hP1
  exact hk p e s mid args below meth c H1 locs1 js F hP1 hS1 hl (okSt_tl (okSt_tl (okSt_tl o1))) o2 o3
theorem w_bastore3 {i r n : Nat} {j x : Int32} (hd : decode (mB m) pc = .ok (.bastore, 1)) (h1 : ly i = (3, n)) (hj : vp_in j n) (hk : Wp E d m (pc + 1) ls st (sI M i r j.toNatClampNeg x.toInt8.toInt32) Q) : Wp E d m pc ls (vI x :: vI j :: vP i r :: st) M Q := by
  intro p e s mid args below meth c H locs js F hP hS hl o1 o2 o3
  have hr : r < rn i := okSt_hd (okSt_tl (okSt_tl o1))
  obtain ⟨q0, hpl, hq⟩ := wsE_at E M (ly_lt (by rw [h1]; show (3 : Nat) ≠ 0; decide)) hr
  rw [cell_b (by rw [h1]), h1] at hq
  refine va_bast (f := M.1 i r) F.1 F.2.1 F.2.2.2.2.2.2.2.2.1 hP (wsE_D M F.2.2.2.2.2.2.2.1) hS q0 1 hq rfl hj hd (fun H1 locs1 hP1 _ hS1 => ?_)
  rw [vp_nar_byte, wsE_set E (M' := sI M i r j.toNatClampNeg x.toInt8.toInt32) hpl (fun q hq => cellE_sI hq) (by rw [cell_b (by rw [h1]), h1]; show Sum.inl (eB E, n, Sum.inl (up3 M.1 i r _ _ i r)) = _; rw [up3_upd])] at hP1
  exact hk p e s mid args below meth c H1 locs1 js F hP1 hS1 hl (okSt_tl (okSt_tl (okSt_tl o1))) o2 o3
theorem nar_bool {x : Int32} (h : x = 0 ∨ x = 1) : vp_nar .boolean x = x := by
  rcases h with rfl | rfl <;> decide
theorem w_bastore4 {i r n : Nat} {j x : Int32} (hd : decode (mB m) pc = .ok (.bastore, 1)) (h1 : ly i = (4, n)) (hj : vp_in j n) (hx : x = 0 ∨ x = 1) (hk : Wp E d m (pc + 1) ls st (sI M i r j.toNatClampNeg x) Q) : Wp E d m pc ls (vI x :: vI j :: vP i r :: st) M Q := by
  intro p e s mid args below meth c H locs js F hP hS hl o1 o2 o3
  have hr : r < rn i := okSt_hd (okSt_tl (okSt_tl o1))
  obtain ⟨q0, hpl, hq⟩ := wsE_at E M (ly_lt (by rw [h1]; show (4 : Nat) ≠ 0; decide)) hr
  rw [cell_z (by rw [h1]), h1] at hq
  refine va_zast (f := M.1 i r) F.1 F.2.1 F.2.2.2.2.2.2.2.2.1 hP (wsE_D M F.2.2.2.2.2.2.2.1) hS q0 2 hq rfl hj hd (fun H1 locs1 hP1 _ hS1 => ?_)
  rw [nar_bool hx, wsE_set E (M' := sI M i r j.toNatClampNeg x) hpl (fun q hq => cellE_sI hq) (by rw [cell_z (by rw [h1]), h1]; show Sum.inl (eZ E, n, Sum.inl (up3 M.1 i r _ _ i r)) = _; rw [up3_upd])] at hP1
  exact hk p e s mid args below meth c H1 locs1 js F hP1 hS1 hl (okSt_tl (okSt_tl (okSt_tl o1))) o2 o3
theorem w_lastore {i r n : Nat} {j : Int32} {x : Int64} (hd : decode (mB m) pc = .ok (.lastore, 1)) (h1 : ly i = (5, n)) (hj : vp_in j n) (hk : Wp E d m (pc + 1) ls st (sJ M i r j.toNatClampNeg x) Q) : Wp E d m pc ls (vJ x :: vI j :: vP i r :: st) M Q := by
  intro p e s mid args below meth c H locs js F hP hS hl o1 o2 o3
  have hr : r < rn i := okSt_hd (okSt_tl (okSt_tl o1))
  obtain ⟨q0, hpl, hq⟩ := wsE_at E M (ly_lt (by rw [h1]; show (5 : Nat) ≠ 0; decide)) hr
  rw [cell_l (by rw [h1]), h1] at hq
  refine va_last (f := M.2.1 i r) F.1 F.2.1 F.2.2.2.2.2.2.2.2.1 hP (wsE_D M F.2.2.2.2.2.2.2.1) hS q0 3 hq rfl hj hd (fun H1 locs1 hP1 _ hS1 => ?_)
  rw [wsE_set E (M' := sJ M i r j.toNatClampNeg x) hpl (fun q hq => cellE_sJ hq) (by rw [cell_l (by rw [h1]), h1]; show Sum.inl (eJ E, n, Sum.inr (Sum.inl (up3 M.2.1 i r _ x i r))) = _; rw [up3_updL])] at hP1
  exact hk p e s mid args below meth c H1 locs1 js F hP1 hS1 hl (okSt_tl (okSt_tl (okSt_tl o1))) o2 o3
theorem w_alen {i r n : Nat} (hd : decode (mB m) pc = .ok (.arraylength, 1)) (h1 : ly i = (2, n)) (hk : Wp E d m (pc + 1) ls (vI (nI n) :: st) M Q) : Wp E d m pc ls (vP i r :: st) M Q := by
  intro p e s mid args below meth c H locs js F hP hS hl o1 o2 o3
  have hr : r < rn i := okSt_hd o1
  obtain ⟨q0, -, hq⟩ := wsE_at E M (ly_lt (by rw [h1]; show (2 : Nat) ≠ 0; decide)) hr
  rw [cell_i (by rw [h1]), h1] at hq
  exact va_alen F.1 F.2.1 F.2.2.2.2.2.2.2.2.1 hP q0 0 hq rfl rfl hd (hk p e s mid args below meth c H locs js F hP hS hl (okSt_cons trivial (okSt_tl o1)) o2 o3)
end SH
