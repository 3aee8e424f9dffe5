/-! soundness of the step function -/
theorem beq_n {a b : Nat} (h : Nat.beq a b = true) : a = b := Nat.beq_eq.mp h
theorem notJ {v : AV} (h : isJ v = false) : ∀ x, v ≠ vJ x := fun x e => by subst e; cases h
theorem cst_0 (a : Nat) : cst a 0 = nI a := rfl
theorem cst_s (a b : Nat) : cst a (b + 1) = -(nI a) := rfl
section SN
variable {E : EV} {d : Nat} {m : MC} {pc : Nat} {ls : List (Option AV)} {st : List AV} {M : Me} {Q : Option AV → Me → Prop} {k : KT}
theorem s_cst {n a b : Nat} {P : Prop} (h : xCst n k pc ls st M a b) (hp : k (pc + n) ls (vI (cst a b) :: st) M → P) : P := by
  cases b with
  | zero => exact hp h
  | succ b => exact hp h
theorem s_put {ix a b c0 : Nat} (hk : ∀ pc ls st M, k pc ls st M → Wp E d m pc ls st M Q) (hd : decode (mB m) pc = .ok (.putfield ix, 3)) (hf : flk.any (fun z => decide (z.1 = (mO m, ix, a, b, c0))) = true) (hfin : (clsT a b).2.2.2 = false) (h : xPut a b k pc ls st M) (hkd : ∀ j, fkd a b = j → (j = 0 → clsY a b = .int) ∧ (j = 1 → clsY a b = .boolean) ∧ (j = 2 → clsY a b = .long) ∧ (j = 5 → ∃ C, clsY a b = .object C)) : Wp E d m pc ls st M Q := by
  unfold xPut at h
  split at h
  · rename_i v i r st'
    split at h
    · rename_i hq
      simp only [Bool.and_eq_true] at hq
      have h1 := beq_n hq.1
      have h2 := beq_n hq.2
      split at h
      · rename_i x e0
        have hy := (hkd _ rfl).1 e0
        refine w_putfield (v := vI x) hd hf hfin h1 h2 (by rw [hy]; rfl) (by rw [hy]; rfl) (fun o _ => okMe_sI o) ?_ ?_ (fun q hq => cellE_sI hq) (hk _ _ _ _ h)
        · unfold getF; rw [h2, e0]; show vI (up3 M.1 i r b x i r b) = _; rw [up3_same]
        · intro c hc; unfold getF sI; simp only [up3_ne (show ¬ (i = i ∧ r = r ∧ c = b) from fun z => hc z.2.2)]
      · rename_i x e0
        have hy := (hkd _ rfl).2.1 e0
        refine w_putfield (v := vI x) hd hf hfin h1 h2 (by rw [hy]; rcases h.1 with e | e <;> (rw [e]; rfl)) (by rw [hy]; rcases h.1 with e | e <;> (rw [e]; rfl)) (fun o _ => okMe_sI o) ?_ ?_ (fun q hq => cellE_sI hq) (hk _ _ _ _ h.2)
        · unfold getF; rw [h2, e0]; show vI (up3 M.1 i r b x i r b) = _; rw [up3_same]
        · intro c hc; unfold getF sI; simp only [up3_ne (show ¬ (i = i ∧ r = r ∧ c = b) from fun z => hc z.2.2)]
      · rename_i x e0
        have hy := (hkd _ rfl).2.2.1 e0
        refine w_putfield (v := vJ x) hd hf hfin h1 h2 (by rw [hy]; rfl) (by rw [hy]; rfl) (fun o _ => okMe_sJ o) ?_ ?_ (fun q hq => cellE_sJ hq) (hk _ _ _ _ h)
        · unfold getF; rw [h2, e0]; show vJ (up3 M.2.1 i r b x i r b) = _; rw [up3_same]
        · intro c hc; unfold getF sJ; simp only [up3_ne (show ¬ (i = i ∧ r = r ∧ c = b) from fun z => hc z.2.2)]
      · rename_i z1 z2 e0
        obtain ⟨C, hy⟩ := (hkd _ rfl).2.2.2 e0
        split at h
        · rename_i hz
          have hz := beq_n hz
          subst hz
          refine w_putfield (v := vP _ z2) hd hf hfin h1 h2 (by rw [hy]; rfl) (by rw [hy]; rfl) (fun o ov => okMe_sG o ov) ?_ ?_ (fun q hq => cellE_sG hq) (hk _ _ _ _ h)
          · unfold getF; rw [h2, e0]; show vP _ (up3 M.2.2 i r b z2 i r b) = _; rw [up3_same]
          · intro c hc; unfold getF sG; simp only [up3_ne (show ¬ (i = i ∧ r = r ∧ c = b) from fun z => hc z.2.2)]
        · exact h.elim
      · exact h.elim
    · exact h.elim
  · exact h.elim
theorem s_callv {ix a b n : Nat} (hk : ∀ pc ls st M, k pc ls st M → Wp E d m pc ls st M Q) (hd : decode (mB m) pc = .ok (.invokevirtual ix, 3)) (hlk : mlk.any (fun z => decide (z.1 = (mO m, ix, a, b))) = true) (hst : mSt (mth a) = 0) (hn : n = mNa (mth a) + 1) (h : xCallV E d a n k pc ls st M) : Wp E d m pc ls st M Q := by
  unfold xCallV at h
  split at h
  · rename_i v as hv
    split at h
    · rename_i hc
      simp only [Bool.and_eq_true] at hc
      obtain ⟨h1, d', Q', h2, h3, h4⟩ := h
      exact w_callv hd hlk hst hn h1 hv (beq_n hc.2.1) hc.1 (Nat.le_of_ble_eq_true hc.2.2) h2 h3 (fun r M' hq => hk _ _ _ _ (h4 r M' hq))
    · exact h.elim
  · exact h.elim
theorem s_calls {ix a b n : Nat} (hk : ∀ pc ls st M, k pc ls st M → Wp E d m pc ls st M Q) (hd : decode (mB m) pc = .ok (.invokestatic ix, 3)) (hlk : mlk.any (fun z => decide (z.1 = (mO m, ix, a, b))) = true) (hst : ¬ mSt (mth a) = 0) (hn : n = mNa (mth a)) (h : xCallS E d a n k pc ls st M) : Wp E d m pc ls st M Q := by
  unfold xCallS at h
  split at h
  · rename_i hc
    simp only [Bool.and_eq_true] at hc
    obtain ⟨h1, d', Q', h2, h3, h4⟩ := h
    exact w_calls hd hlk hst hn h1 (Nat.le_of_ble_eq_true hc.1) (Nat.le_of_ble_eq_true hc.2) h2 h3 (fun r M' hq => hk _ _ _ _ (h4 r M' hq))
  · exact h.elim
theorem ix_in {i kd n t : Nat} {j : Int32} (h : ly i = (kd, n)) (h0 : kd ≠ 0) (h1 : kd ≠ 1) (ht : t < n) (hj : j = nI t) : vp_in j n ∧ j.toNatClampNeg = t := by
  have hn := lay_len kd h h0 h1
  subst hj
  exact ⟨vp_in_nI ht (by omega), nI_clamp (by omega)⟩
theorem pair_ly {i kd : Nat} (h : Nat.beq (ly i).1 kd = true) : ly i = (kd, (ly i).2) := by
  have h := beq_n h
  rw [← h]
theorem xIc_mono {cd : Jvm.ClassFile.Cond} {x y : Int32} {A B A' B' : Prop} (h : xIc cd x y A B) (ha : A → A') (hb : B → B') : xIc cd x y A' B' := by
  cases cd <;> exact ⟨fun q => ha (h.1 q), fun q => hb (h.2 q)⟩
theorem xTab_mono {x : Int32} {f g : Int → Prop} (hfg : ∀ o, f o → g o) : ∀ (l : List Int) (n : Nat), xTab x f n l → xTab x g n l
  | [], _, _ => trivial
  | a :: l, n, h => ⟨fun e => hfg _ (h.1 e), xTab_mono hfg l (n + 1) h.2⟩
theorem xLook_mono {x : Int32} {f g : Int → Prop} {dflt : Int} (hfg : ∀ o, f o → g o) : ∀ (l : List (Int × Int)), xLook x f dflt l → xLook x g dflt l
  | [], h => hfg _ h
  | a :: l, h => ⟨fun e => hfg _ (h.1 e), fun e => xLook_mono hfg l (h.2 e)⟩
def kdOK : Bool := (List.range 11).all fun c => (List.range (nf c)).all fun k => match fkd c k with
  | 0 => decide (clsY c k = .int)
  | 1 => decide (clsY c k = .boolean)
  | 2 => decide (clsY c k = .long)
  | 5 => (match clsY c k with
    | .object _ => true
    | _ => false)
  | _ => true
theorem kdOK_t : kdOK = true := by decide +kernel
theorem kd_at {a b : Nat} (h1 : a < 11) (h2 : b < nf a) : ∀ j, fkd a b = j → (j = 0 → clsY a b = .int) ∧ (j = 1 → clsY a b = .boolean) ∧ (j = 2 → clsY a b = .long) ∧ (j = 5 → ∃ C, clsY a b = .object C) := by
  intro j hj
  have h := List.all_eq_true.mp (List.all_eq_true.mp kdOK_t a (List.mem_range.mpr h1)) b (List.mem_range.mpr h2)
  rw [hj] at h
  refine ⟨fun e => ?_, fun e => ?_, fun e => ?_, fun e => ?_⟩
  · subst e; exact of_decide_eq_true h
  · subst e; exact of_decide_eq_true h
  · subst e; exact of_decide_eq_true h
  · subst e
    have h : (match clsY a b with
      | .object _ => true
      | _ => false) = true := h
    cases hC : clsY a b with
    | object C => exact ⟨C, rfl⟩
    | _ => rw [hC] at h; cases h
set_option maxHeartbeats 4000000 in
theorem stI_sound (hok : okM m) (hk : ∀ pc ls st M, k pc ls st M → Wp E d m pc ls st M Q) {ins : Instr} {len a b c : Nat} (hd : decode (mB m) pc = .ok (ins, len)) (ha : auxOK m pc ins len a b c = true) (h : stI E d m Q k pc ls st M ins a b c) : Wp E d m pc ls st M Q := by
  unfold stI at h
  split at h
  · simp only [auxOK, Bool.and_eq_true] at ha
    obtain rfl := beq_n ha.1
    exact s_cst h (fun h => w_iconst hd (of_decide_eq_true ha.2) (hk _ _ _ _ h))
  · simp only [auxOK, Bool.and_eq_true] at ha
    obtain rfl := beq_n ha.1
    exact s_cst h (fun h => w_bipush hd (of_decide_eq_true ha.2) (hk _ _ _ _ h))
  · simp only [auxOK, Bool.and_eq_true] at ha
    obtain rfl := beq_n ha.1
    exact s_cst h (fun h => w_sipush hd (of_decide_eq_true ha.2) (hk _ _ _ _ h))
  · obtain rfl := beq_n ha
    exact w_lconst hd rfl (hk _ _ _ _ h)
  · obtain rfl := beq_n ha
    unfold xLI at h
    split at h
    · rename_i hg; exact w_iload_n hd hg (hk _ _ _ _ h)
    · exact h.elim
  · obtain rfl := beq_n ha
    unfold xLI at h
    split at h
    · rename_i hg; exact w_iload hd hg (hk _ _ _ _ h)
    · exact h.elim
  · obtain rfl := beq_n ha
    unfold xLJ at h
    split at h
    · rename_i hg; exact w_lload_n hd hg (hk _ _ _ _ h)
    · exact h.elim
  · obtain rfl := beq_n ha
    unfold xLJ at h
    split at h
    · rename_i hg; exact w_lload hd hg (hk _ _ _ _ h)
    · exact h.elim
  · obtain rfl := beq_n ha
    unfold xLA at h
    split at h
    · rename_i hg; exact w_aload_n hd hg (hk _ _ _ _ h)
    · exact h.elim
  · obtain rfl := beq_n ha
    unfold xLA at h
    split at h
    · rename_i hg; exact w_aload hd hg (hk _ _ _ _ h)
    · exact h.elim
  · simp only [auxOK, Bool.and_eq_true] at ha
    obtain rfl := beq_n ha.1
    unfold xSI at h
    split at h
    · exact w_istore_n hd (Nat.blt_eq.mp ha.2) (hk _ _ _ _ h)
    · exact h.elim
  · simp only [auxOK, Bool.and_eq_true] at ha
    obtain rfl := beq_n ha.1
    unfold xSI at h
    split at h
    · exact w_istore hd (Nat.blt_eq.mp ha.2) (hk _ _ _ _ h)
    · exact h.elim
  · simp only [auxOK, Bool.and_eq_true] at ha
    obtain rfl := beq_n ha.1
    unfold xSJ at h
    split at h
    · exact w_lstore_n hd (Nat.blt_eq.mp ha.2) (hk _ _ _ _ h)
    · exact h.elim
  · simp only [auxOK, Bool.and_eq_true] at ha
    obtain rfl := beq_n ha.1
    unfold xSJ at h
    split at h
    · exact w_lstore hd (Nat.blt_eq.mp ha.2) (hk _ _ _ _ h)
    · exact h.elim
  · simp only [auxOK, Bool.and_eq_true] at ha
    obtain rfl := beq_n ha.1
    unfold xSA at h
    split at h
    · exact w_astore_n hd (Nat.blt_eq.mp ha.2) (hk _ _ _ _ h)
    · exact h.elim
  · simp only [auxOK, Bool.and_eq_true] at ha
    obtain rfl := beq_n ha.1
    unfold xSA at h
    split at h
    · exact w_astore hd (Nat.blt_eq.mp ha.2) (hk _ _ _ _ h)
    · exact h.elim
  · simp only [auxOK, Bool.and_eq_true] at ha
    obtain rfl := beq_n ha.1
    have hc := of_decide_eq_true ha.2.2
    unfold xInc at h
    split at h
    · rename_i x b' hg
      exact w_iinc hd hg (by rw [hc, cst_0]) (Nat.blt_eq.mp ha.2.1) (hk _ _ _ _ (h _ rfl))
    · rename_i x hg hb
      refine w_iinc hd hg ?_ (Nat.blt_eq.mp ha.2.1) (hk _ _ _ _ (h _ rfl))
      obtain ⟨b', rfl⟩ := Nat.exists_eq_succ_of_ne_zero hb
      rw [hc, cst_s, Int32.sub_eq_add_neg]
    · exact h.elim
  · obtain rfl := beq_n ha
    unfold x_iadd at h
    split at h
    · exact w_iadd hd (hk _ _ _ _ h)
    · exact h.elim
  · obtain rfl := beq_n ha
    unfold x_isub at h
    split at h
    · exact w_isub hd (hk _ _ _ _ h)
    · exact h.elim
  · obtain rfl := beq_n ha
    unfold x_imul at h
    split at h
    · exact w_imul hd (hk _ _ _ _ h)
    · exact h.elim
  · obtain rfl := beq_n ha
    unfold x_iand at h
    split at h
    · exact w_iand hd (hk _ _ _ _ h)
    · exact h.elim
  · obtain rfl := beq_n ha
    unfold x_ior at h
    split at h
    · exact w_ior hd (hk _ _ _ _ h)
    · exact h.elim
  · obtain rfl := beq_n ha
    unfold x_ixor at h
    split at h
    · exact w_ixor hd (hk _ _ _ _ h)
    · exact h.elim
  · obtain rfl := beq_n ha
    unfold x_ishl at h
    split at h
    · exact w_ishl hd (hk _ _ _ _ h)
    · exact h.elim
  · obtain rfl := beq_n ha
    unfold x_ishr at h
    split at h
    · exact w_ishr hd (hk _ _ _ _ h)
    · exact h.elim
  · obtain rfl := beq_n ha
    unfold x_iushr at h
    split at h
    · exact w_iushr hd (hk _ _ _ _ h)
    · exact h.elim
  · obtain rfl := beq_n ha
    unfold x_idiv at h
    split at h
    · exact w_idiv hd h.1 (hk _ _ _ _ h.2)
    · exact h.elim
  · obtain rfl := beq_n ha
    unfold x_irem at h
    split at h
    · exact w_irem hd h.1 (hk _ _ _ _ h.2)
    · exact h.elim
  · obtain rfl := beq_n ha
    unfold x_ladd at h
    split at h
    · exact w_ladd hd (hk _ _ _ _ h)
    · exact h.elim
  · obtain rfl := beq_n ha
    unfold x_lsub at h
    split at h
    · exact w_lsub hd (hk _ _ _ _ h)
    · exact h.elim
  · obtain rfl := beq_n ha
    unfold x_lmul at h
    split at h
    · exact w_lmul hd (hk _ _ _ _ h)
    · exact h.elim
  · obtain rfl := beq_n ha
    unfold x_ldiv at h
    split at h
    · exact w_ldiv hd h.1 (hk _ _ _ _ h.2)
    · exact h.elim
  · obtain rfl := beq_n ha
    unfold x_lrem at h
    split at h
    · exact w_lrem hd h.1 (hk _ _ _ _ h.2)
    · exact h.elim
  · obtain rfl := beq_n ha
    split at h
    · exact w_lcmp hd (hk _ _ _ _ h)
    · exact h.elim
  · obtain rfl := beq_n ha
    split at h
    · exact w_i2l hd (hk _ _ _ _ h)
    · exact h.elim
  · obtain rfl := beq_n ha
    split at h
    · exact w_l2i hd (hk _ _ _ _ h)
    · exact h.elim
  · obtain rfl := beq_n ha
    split at h
    · exact w_i2b hd (hk _ _ _ _ h)
    · exact h.elim
  · simp only [auxOK, Bool.and_eq_true] at ha
    obtain rfl := beq_n ha.1
    exact w_goto hd (of_decide_eq_true ha.2) (hk _ _ _ _ h)
  · simp only [auxOK, Bool.and_eq_true] at ha
    obtain rfl := beq_n ha.1
    unfold xIf2 at h
    split at h
    · exact w_icmp hd (of_decide_eq_true ha.2) (xIc_mono h (hk _ _ _ _) (hk _ _ _ _))
    · exact h.elim
  · simp only [auxOK, Bool.and_eq_true] at ha
    obtain rfl := beq_n ha.1
    unfold xIf at h
    split at h
    · exact w_ifc hd (of_decide_eq_true ha.2) (xIc_mono h (hk _ _ _ _) (hk _ _ _ _))
    · exact h.elim
  · obtain rfl := beq_n ha
    unfold xDup at h
    split at h
    · split at h
      · exact h.elim
      · rename_i hv; exact w_dup hd (notJ hv) (hk _ _ _ _ h)
    · exact h.elim
  · obtain rfl := beq_n ha
    unfold xDup2 at h
    split at h
    · split at h
      · exact h.elim
      · rename_i hv
        simp only [Bool.or_eq_false_iff] at hv
        exact w_dup2 hd (notJ hv.1) (notJ hv.2) (hk _ _ _ _ h)
    · exact h.elim
  · simp only [auxOK, Bool.and_eq_true] at ha
    obtain rfl := beq_n ha.1
    unfold xGet at h
    split at h
    · rename_i i r st'
      split at h
      · rename_i hq
        simp only [Bool.and_eq_true] at hq
        have h1 := beq_n hq.1
        have h2 := beq_n hq.2
        refine w_getfield hd ha.2 h1 h2 (hk _ _ _ _ ?_)
        unfold getF
        rw [h2]
        simp only [tgtK_eq] at h
        split at h
        · rename_i e; rw [e]; exact h
        · rename_i e; rw [e]; exact h
        · rename_i e; rw [e]; exact h
        · rename_i e; rw [e]; exact h
        · rename_i e; rw [e]; exact h
        · rename_i e; rw [e]; exact h
        · exact h.elim
      · exact h.elim
    · exact h.elim
  · simp only [auxOK, Bool.and_eq_true] at ha
    obtain rfl := beq_n ha.1
    obtain ⟨f1, f2, -, -⟩ := flk_at ha.2.1
    exact s_put hk hd ha.2.1 (by simpa using ha.2.2) h (kd_at f1 f2)
  · obtain rfl := beq_n ha
    unfold xAld at h
    split at h
    · split at h
      · rename_i hq
        obtain ⟨t, ht, hj, h⟩ := h
        obtain ⟨e1, e2⟩ := ix_in (pair_ly hq) (by decide) (by decide) ht hj
        exact w_iaload hd (pair_ly hq) e1 (by rw [e2]; exact hk _ _ _ _ h)
      · exact h.elim
    · exact h.elim
  · obtain rfl := beq_n ha
    unfold xBld at h
    split at h
    · split at h
      · rename_i hq
        obtain ⟨t, ht, hj, h⟩ := h
        rcases Bool.or_eq_true_iff.mp hq with hq | hq
        · obtain ⟨e1, e2⟩ := ix_in (pair_ly hq) (by decide) (by decide) ht hj
          exact w_baload3 hd (pair_ly hq) e1 (by rw [e2]; exact hk _ _ _ _ h)
        · obtain ⟨e1, e2⟩ := ix_in (pair_ly hq) (by decide) (by decide) ht hj
          exact w_baload4 hd (pair_ly hq) e1 (by rw [e2]; exact hk _ _ _ _ h)
      · exact h.elim
    · exact h.elim
  · obtain rfl := beq_n ha
    unfold xJld at h
    split at h
    · split at h
      · rename_i hq
        obtain ⟨t, ht, hj, h⟩ := h
        obtain ⟨e1, e2⟩ := ix_in (pair_ly hq) (by decide) (by decide) ht hj
        exact w_laload hd (pair_ly hq) e1 (by rw [e2]; exact hk _ _ _ _ h)
      · exact h.elim
    · exact h.elim
  · obtain rfl := beq_n ha
    unfold xRld at h
    split at h
    · split at h
      · rename_i hq
        obtain ⟨t, ht, hj, h⟩ := h
        obtain ⟨e1, e2⟩ := ix_in (pair_ly hq) (by decide) (by decide) ht hj
        rw [tgtK_eq] at h
        split at h
        · rename_i hr
          intro p e s mid args below meth c H locs js F hP hS hl o1 o2 o3
          have hr := beq_n hr
          have hz : _ < _ := okSt_hd (okSt_tl o1)
          rw [hr] at hz
          have hz := Nat.lt_one_iff.mp hz
          dsimp only at hz
          refine w_aaload hd (pair_ly hq) e1 ?_ p e s mid args below meth c H locs js F hP hS hl o1 o2 o3
          rw [e2, hz, Nat.zero_mul, Nat.add_zero]
          exact hk _ _ _ _ h
        · exact w_aaload hd (pair_ly hq) e1 (by rw [e2]; exact hk _ _ _ _ h)
      · exact h.elim
    · exact h.elim
  · obtain rfl := beq_n ha
    unfold xAst at h
    split at h
    · split at h
      · rename_i hq
        obtain ⟨t, ht, hj, h⟩ := h
        obtain ⟨e1, e2⟩ := ix_in (pair_ly hq) (by decide) (by decide) ht hj
        exact w_iastore hd (pair_ly hq) e1 (by rw [e2]; exact hk _ _ _ _ h)
      · exact h.elim
    · exact h.elim
  · obtain rfl := beq_n ha
    unfold xBst at h
    split at h
    · split at h
      · rename_i hq
        obtain ⟨t, ht, hj, h⟩ := h
        obtain ⟨e1, e2⟩ := ix_in (pair_ly hq) (by decide) (by decide) ht hj
        exact w_bastore3 hd (pair_ly hq) e1 (by rw [e2]; exact hk _ _ _ _ h)
      · split at h
        · rename_i hq
          obtain ⟨t, ht, hj, hx, h⟩ := h
          obtain ⟨e1, e2⟩ := ix_in (pair_ly hq) (by decide) (by decide) ht hj
          exact w_bastore4 hd (pair_ly hq) e1 hx (by rw [e2]; exact hk _ _ _ _ h)
        · exact h.elim
    · exact h.elim
  · obtain rfl := beq_n ha
    unfold xJst at h
    split at h
    · split at h
      · rename_i hq
        obtain ⟨t, ht, hj, h⟩ := h
        obtain ⟨e1, e2⟩ := ix_in (pair_ly hq) (by decide) (by decide) ht hj
        exact w_lastore hd (pair_ly hq) e1 (by rw [e2]; exact hk _ _ _ _ h)
      · exact h.elim
    · exact h.elim
  · obtain rfl := beq_n ha
    unfold xLen at h
    split at h
    · split at h
      · rename_i hq; exact w_alen hd (pair_ly hq) (hk _ _ _ _ h)
      · exact h.elim
    · exact h.elim
  · simp only [auxOK, Bool.and_eq_true] at ha
    obtain ⟨a1, a2, a3, a4, a5, a6⟩ := ha
    unfold xSw at h
    split at h
    · exact w_table hd (of_decide_eq_true a1) (of_decide_eq_true a2) (Nat.blt_eq.mp a3) (of_decide_eq_true a4) (of_decide_eq_true a5) (fun o ho => of_decide_eq_true (List.all_eq_true.mp a6 o ho)) (fun q => hk _ _ _ _ (h.1 q)) (xTab_mono (fun o => hk _ _ _ _) _ _ h.2)
    · exact h.elim
  · simp only [auxOK, Bool.and_eq_true] at ha
    obtain ⟨a1, a2, a3⟩ := ha
    have a4 : ∀ q ∈ _, _ := fun q hq => List.all_eq_true.mp a3 q hq
    simp only [Bool.and_eq_true] at a4
    unfold xLk at h
    split at h
    · exact w_look hd a1 (of_decide_eq_true a2) (fun q hq => of_decide_eq_true (a4 q hq).1) (fun q hq => ⟨of_decide_eq_true (a4 q hq).2.1, of_decide_eq_true (a4 q hq).2.2⟩) (xLook_mono (fun o => hk _ _ _ _) _ h)
    · exact h.elim
  · simp only [auxOK, Bool.and_eq_true] at ha
    obtain rfl := beq_n ha.1
    exact w_ldcs hd (by simpa using ha.2.1) (Nat.blt_eq.mp ha.2.2) (hk _ _ _ _ h)
  · simp only [auxOK, Bool.and_eq_true] at ha
    obtain rfl := beq_n ha.1
    exact w_ldcw hd ha.2 (hk _ _ _ _ h)
  · simp only [auxOK, Bool.and_eq_true] at ha
    obtain rfl := beq_n ha.1
    exact w_ldc2w hd ha.2 (hk _ _ _ _ h)
  · simp only [auxOK, Bool.and_eq_true] at ha
    obtain rfl := beq_n ha.1
    exact s_callv hk hd ha.2.1 (beq_n ha.2.2.2) (by rw [beq_n ha.2.2.1]) h
  · simp only [auxOK, Bool.and_eq_true] at ha
    obtain ⟨a0, ha⟩ := ha
    obtain rfl := beq_n a0
    split at h
    · unfold xMax at h
      split at h
      · split at h
        · rename_i hq
          simp only [Bool.and_eq_true] at hq
          exact w_max hd ha (Nat.blt_eq.mp hq.1) (Nat.le_of_ble_eq_true hq.2) (hk _ _ _ _ h)
        · exact h.elim
      · exact h.elim
    · unfold xMin at h
      split at h
      · split at h
        · rename_i hq
          simp only [Bool.and_eq_true] at hq
          exact w_min hd ha (Nat.blt_eq.mp hq.1) (Nat.le_of_ble_eq_true hq.2) (hk _ _ _ _ h)
        · exact h.elim
      · exact h.elim
    · split at ha
      · exact absurd rfl ‹2 = 2 → False›
      · exact absurd rfl ‹3 = 3 → False›
      · simp only [Bool.and_eq_true] at ha
        exact s_calls hk hd ha.1 (by rw [beq_n ha.2.2]; decide) (beq_n ha.2.1) h
  · obtain rfl := beq_n ha
    unfold xRet at h
    split at h
    · split at h
      · rename_i hm; exact w_iret hd hm h
      · rename_i hm; exact w_zret hd hm h.1 h.2
      · exact h.elim
    · exact h.elim
  · obtain rfl := beq_n ha
    unfold xRetJ at h
    split at h
    · split at h
      · rename_i hm; exact w_lret hd hm h
      · exact h.elim
    · exact h.elim
  · obtain rfl := beq_n ha
    unfold xRetV at h
    split at h
    · split at h
      · rename_i hm; exact w_vret hd hm h
      · exact h.elim
    · exact h.elim
  · exact h.elim
theorem st1_sound (hok : okM m) (hk : ∀ pc ls st M, k pc ls st M → Wp E d m pc ls st M Q) (h : st1 E d m Q k pc ls st M) : Wp E d m pc ls st M Q := by
  unfold st1 at h
  cases hl : Nat.blt pc (mLen m) with
  | false => rw [hl] at h; exact h.elim
  | true =>
    rw [hl] at h
    dsimp only [cond_true] at h
    cases hc : mCf m pc with
    | none => rw [hc] at h; exact h.elim
    | some q =>
      obtain ⟨ins, len, a, b, c⟩ := q
      rw [hc] at h
      obtain ⟨hd, ha⟩ := hok.2.2.2 pc ins len a b c (Nat.blt_eq.mp hl) hc
      exact stI_sound hok hk hd ha h
theorem wpx_sound (hok : okM m) (stops : List Nat) : ∀ (n pc : Nat) (ls : List (Option AV)) (st : List AV) (M : Me), wpx E d m Q stops n pc ls st M → Wp E d m pc ls st M Q
  | 0, _, _, _, _, h => h
  | n + 1, _, _, _, _, h => st1_sound hok (fun pc ls st M h => by
    split at h
    · exact h
    · exact wpx_sound hok stops n pc ls st M h) h
theorem go (hok : okM m) (stops : List Nat) (n : Nat) (h : wpx E d m Q stops n pc ls st M) : Wp E d m pc ls st M Q := wpx_sound hok stops n pc ls st M h
/-! the entry -/
def noJ : List AV → Bool
  | [] => true
  | v :: l => !isJ v && noJ l
def ent (as : List AV) (n : Nat) : List (Option AV) := as.map some ++ List.replicate (n - as.length) none
theorem ent_none {E : EV} : ∀ (j k : Nat), lvl E k (List.replicate j none) = []
  | 0, _ => rfl
  | j + 1, k => ent_none j (k + 1)
theorem ent_lvl {E : EV} {j : Nat} : ∀ (as : List AV) (k : Nat), noJ as = true → lvl E k (as.map some ++ List.replicate j none) = lv_args k (as.map (cv E))
  | [], k, _ => ent_none j k
  | v :: as, k, h => by
    simp only [noJ, Bool.and_eq_true, Bool.not_eq_true'] at h
    have hc : ¬ (cv E v).category = 2 := by rw [cat1 (E := E) (notJ h.1)]; decide
    show (k, cv E v) :: lvl E (k + 1) (as.map some ++ List.replicate j none) = (k, cv E v) :: lv_args (if (cv E v).category = 2 then k + 2 else k + 1) (as.map (cv E))
    rw [if_neg hc, ent_lvl as (k + 1) h.2]
theorem ent_sl {E : EV} : ∀ (as : List AV), noJ as = true → (lg_sl (as.map (cv E))).length = as.length
  | [], _ => rfl
  | v :: as, h => by
    simp only [noJ, Bool.and_eq_true, Bool.not_eq_true'] at h
    have hc : ¬ (cv E v).category = 2 := by rw [cat1 (E := E) (notJ h.1)]; decide
    have h1 := ent_sl (E := E) as h.2
    unfold lg_sl at h1 ⊢
    simp only [List.map_cons, List.flatMap_cons, if_neg hc, List.length_append, List.length_cons, List.length_nil, h1]
    omega
theorem okLs_ent {as : List AV} {n : Nat} (h : okSt as) : okLs (ent as n) := by
  intro v hv
  rcases List.mem_append.mp hv with hv | hv
  · obtain ⟨u, hu, e⟩ := List.mem_map.mp hv
    cases e
    exact h v hu
  · obtain ⟨-, e⟩ := List.mem_replicate.mp hv
    cases e
theorem Mt.of {as : List AV} (hok : okM m) (hj : (noJ as && Nat.ble as.length (mL m)) = true) (h : Wp E d m 0 (ent as (mL m)) [] M Q) : Mt E d m as M Q := by
  simp only [Bool.and_eq_true] at hj
  intro o1 o3
  refine Met.ofW (cc := mB m) (maxL := mL m) (ret := mR m) hok.2.1 rfl ?_
  intro p e s mid args below meth c s₁ B hml hv
  obtain ⟨rfl, hC, hP⟩ := hv
  have hts := atoms_spec (ws := Cond.code (mN m) (mB m) (mL m) (mR m) :: TW) B.pre
  have hown : s.vm.findClass (cnm (mO m)) = some mid.cls := by rw [hok.2.2.1]; exact findClass_of_methodNamed B.named
  have F : FX E m p s mid (as.map (cv E)).toArray meth c := ⟨B.exec, B.bytes, hml, B.returns, hown, fun w hw => hts w (List.mem_cons_of_mem _ hw), B.notSynchronized, hC⟩
  have hl := lv_entry (as.map (cv E)) (n := mL m) (by rw [ent_sl as hj.1]; exact Nat.le_of_ble_eq_true hj.2)
  rw [lg_entry_eq]
  rw [← ent_lvl (j := mL m - as.length) as 0 hj.1] at hl
  exact h p e s mid _ below meth c s.heap [] _ F hP va_S.rf hl (fun v hv => (by cases hv)) (okLs_ent o1) o3
theorem xc {m' : MC} {as : List AV} {K Q' : Option AV → Me → Prop} (d' : Nat) (hok : okM m') (hM : Mt E d' m' as M Q') (hd : d' < d) (hk : ∀ r M', Q' r M' → K r M') : codeW m' ∈ TW ∧ CallK E d m' as M K := ⟨hok.1, d', Q', hd, hM, hk⟩
theorem Mt.go {as : List AV} (hok : okM m) (stops : List Nat) (n : Nat) (hj : (noJ as && Nat.ble as.length (mL m)) = true) (h : wpx E d m Q stops n 0 (ent as (mL m)) [] M) : Mt E d m as M Q := Mt.of hok hj (wpx_sound hok stops n _ _ _ _ h)
/-- an index -/
theorem ix {n : Nat} {j : Int32} {K : Nat → Prop} (t : Nat) (h : t < n) (e : j = nI t) (k : K t) : ∃ t : Nat, t < n ∧ j = nI t ∧ K t := ⟨t, h, e, k⟩
theorem loopUp {P : Nat → Prop} (N : Nat) (hN : P N) (h : ∀ i, i < N → P (i + 1) → P i) (i : Nat) (hi : i ≤ N) : P i := by
  have key : ∀ k, k ≤ N → P (N - k) := by
    intro k
    induction k with
    | zero => intro _; exact hN
    | succ k ih =>
      intro hk
      refine h _ (by omega) ?_
      have e : N - (k + 1) + 1 = N - k := by omega
      rw [e]
      exact ih (by omega)
  have e : i = N - (N - i) := by omega
  rw [e]
  exact key _ (by omega)
/-- a truth as a number -/
def bI (b : Bool) : Int32 := cond b (nI 1) (nI 0)
theorem bI_or (b : Bool) : bI b = nI 0 ∨ bI b = nI 1 := by cases b <;> simp [bI]
theorem bI_f {b : Bool} : bI b = nI 0 ↔ b = false := by cases b <;> decide
theorem bI_t {b : Bool} : ¬ bI b = nI 0 ↔ b = true := by cases b <;> decide
theorem brF {b : Bool} {A B : Prop} (h0 : b = false → A) (h1 : b = true → B) : (bI b = nI 0 → A) ∧ (¬ bI b = nI 0 → B) := ⟨fun h => h0 (bI_f.mp h), fun h => h1 (bI_t.mp h)⟩
theorem brN {b : Bool} {A B : Prop} (h1 : b = true → A) (h0 : b = false → B) : (¬ bI b = nI 0 → A) ∧ (bI b = nI 0 → B) := ⟨fun h => h1 (bI_t.mp h), fun h => h0 (bI_f.mp h)⟩
/-- a comparison of small numbers: jump, or go on -/
theorem cLe {a b : Nat} {A B : Prop} (ha : a < 2 ^ 31) (hb : b < 2 ^ 31) (h1 : a ≤ b → A) (h2 : b < a → B) : (nI a ≤ nI b → A) ∧ (¬ nI a ≤ nI b → B) := ⟨fun h => h1 ((nI_leI ha hb).mp h), fun h => h2 (Nat.not_le.mp (fun q => h ((nI_leI ha hb).mpr q)))⟩
theorem cLt {a b : Nat} {A B : Prop} (ha : a < 2 ^ 31) (hb : b < 2 ^ 31) (h1 : a < b → A) (h2 : b ≤ a → B) : (nI a < nI b → A) ∧ (¬ nI a < nI b → B) := ⟨fun h => h1 ((nI_ltI ha hb).mp h), fun h => h2 (Nat.not_lt.mp (fun q => h ((nI_ltI ha hb).mpr q)))⟩
theorem cEq {a b : Nat} {A B : Prop} (ha : a < 2 ^ 31) (hb : b < 2 ^ 31) (h1 : a = b → A) (h2 : a ≠ b → B) : (nI a = nI b → A) ∧ (¬ nI a = nI b → B) := ⟨fun h => h1 ((nI_eq ha hb).mp h), fun h => h2 (fun q => h ((nI_eq ha hb).mpr q))⟩
theorem cNe {a b : Nat} {A B : Prop} (ha : a < 2 ^ 31) (hb : b < 2 ^ 31) (h1 : a ≠ b → A) (h2 : a = b → B) : (¬ nI a = nI b → A) ∧ (nI a = nI b → B) := ⟨fun h => h1 (fun q => h ((nI_eq ha hb).mpr q)), fun h => h2 ((nI_eq ha hb).mp h)⟩
end SN
