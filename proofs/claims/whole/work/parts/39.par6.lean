/-! the reference: readStation, readBorder, readLine -/
theorem stT_inl {T : TT} {C : Nat} (q : FL) : stT T C (.inl q) = .inl q := rfl
theorem bnd_inl {α β : Type} {q : FL} {k : α → FL ⊕ β} : bnd (Sum.inl q) k = Sum.inl q := rfl
theorem bnd_inr {α β : Type} {x : α} {k : α → FL ⊕ β} : bnd (Sum.inr x) k = k x := rfl
theorem ned_inl {T : TT} {i : Nat} {q : FL} : ned T i (.inl q) = .inl q := rfl
theorem nxt_inl {W : FL ⊕ (Nat × Nat)} {q : FL} (h : nxt W = .inl q) : W = .inl q := by
  match W, h with
  | .inl q', h => cases h; rfl
  | .inr z, h => cases h
theorem any_range_succ (p : Nat → Bool) (k : Nat) : (List.range (k + 1)).any p = ((List.range k).any p || p k) := by
  rw [List.range_succ, List.any_append]
  simp
section P6
variable (E : EV) (d : Nat) {T : TT} {B : Me}
/-- from the word on to the end of a station -/
theorem r_stTail (hS : StrOK E) (hT : RTt T B) {C st : Nat} (hC : C ≤ 10) (hst : st ≤ 8) (hB : B.1 60 0 20 = nI C) (Q : Option AV → Me → Prop) (R : FL ⊕ Nat) (hR : ∀ b, R = .inr b → st < 8) (h1 : ∀ q M', stT T C R = .inl q → TMe T B (.inl q) M' → Q none M') (h2 : ∀ z M', stT T C R = .inr z → TMe T (stW B st z.1 z.2.1 z.2.2.1) (.inr z.2.2.2) M' → Q none M') (j2 : Int32) (j3 j4 : Option AV) (M : Me) (h : TMe T B R M) : Wp E (d + 9) m_Mo_readStation 119 [some (vP 60 0), some (vI (nI st)), some (vI j2), none, none] [] M Q := by
  obtain ⟨f, g, rfl, h⟩ := h
  refine go ok_Mo_readStation [167] 100 ?_
  refine xc (d + 1 + 7) ok_Mo_needs (r_needs E (d + 1) hS hT 4 (by omega) h) (by omega) ?_
  rintro r M1 ⟨rfl, f1, g1, rfl, k1⟩
  have hx := r_readWhole E (d + 4) (B := B) hT 1 C (by omega) (by omega) k1
  rw [← hB] at hx
  refine xc (d + 4 + 3) ok_Mo_readWhole hx (by omega) ?_
  rintro r M2 ⟨v5, rfl, q5⟩
  obtain ⟨⟨f2, g2, rfl, k2⟩, e5⟩ := WhP_x q5
  refine xc (d + 1 + 7) ok_Mo_needs (r_needs E (d + 1) hS hT 5 (by omega) k2) (by omega) ?_
  rintro r M3 ⟨rfl, f3, g3, rfl, k3⟩
  refine xc (d + 4 + 3) ok_Mo_readWhole (r_readWhole E (d + 4) (B := B) hT 0 999 (by omega) (by omega) k3) (by omega) ?_
  rintro r M4 ⟨v6, rfl, q6⟩
  obtain ⟨⟨f4, g4, rfl, k4⟩, e6⟩ := WhP_x q6
  refine xq (d + 6) ok_Mo_isWord (r_isWord E d hS 6 (by omega) k4) (by omega) ?_
  -- a fault
  have bad : ∀ q, stT T C R = .inl q → ∀ x M', TMe T B (.inl q) M' → Wp E (d + 9) m_Mo_readStation 167 [some (vP 60 0), some (vI (nI st)), some (vI v5), some (vI v6), none] [vI x] M' Q := by
    rintro q hq x M' ⟨f', g', rfl, k'⟩
    refine go ok_Mo_readStation [] 60 ?_
    obtain ⟨e1, e2, e3, e4, e5⟩ := id k'
    refine qLe e2 rfl (by omega) (by omega) (fun e => absurd e (by omega)) (fun _ => ?_)
    exact h1 q _ hq ⟨f', g', rfl, k'⟩
  cases hW6 : whl T 0 999 (ned T 5 (nxt (whl T 1 C (ned T 4 R)))) with
  | inl q =>
    rw [hW6] at k4
    have k4 : TS T f4 g4 (.inl q) := k4
    refine brF (fun _ => ?_) (fun e => by cases e)
    refine bad q ?_ _ _ ⟨f4, g4, rfl, k4⟩
    unfold stT
    cases hW5 : whl T 1 C (ned T 4 R) with
    | inl q5 =>
      rw [hW5] at hW6
      have hW6 : (Sum.inl q5 : FL ⊕ (Nat × Nat)) = .inl q := hW6
      cases hW6
      rfl
    | inr z5 =>
      rw [hW5] at hW6
      have hW6 : whl T 0 999 (ned T 5 (.inr z5.2)) = .inl q := hW6
      rw [bnd_inr, hW6]
      rfl
  | inr z6 =>
    have e6 := e6 _ hW6
    obtain ⟨b6, x6, y6, -⟩ := whl_inr hW6
    obtain ⟨b5, x5, -, -⟩ := ned_inr x6
    obtain ⟨n5, x4⟩ := nxt_inr x5
    have e5 := e5 _ x4
    obtain ⟨b3, x3, -⟩ := whl_inr x4
    obtain ⟨b2, x2, -⟩ := ned_inr x3
    have hst8 := hR b2 x2
    rw [hW6] at k4
    have k4 : TS T f4 g4 (.inr z6.2) := k4
    have hsT : stT T C R = bnd (notO T C z6.2) fun z7 => .inr (n5, z6.1, z7.1, z7.2) := by
      unfold stT
      rw [x4, bnd_inr]
      rw [x4] at hW6
      have hW6 : whl T 0 999 (ned T 5 (.inr b5)) = .inr z6 := hW6
      dsimp only
      rw [hW6, bnd_inr]
    subst e5; subst e6
    -- no fault
    have good : ∀ x M', TMe T B (.inr x.2) M' → notO T C z6.2 = .inr x → Wp E (d + 9) m_Mo_readStation 167 [some (vP 60 0), some (vI (nI st)), some (vI (nI n5)), some (vI (nI z6.1)), none] [vI x.1] M' Q := by
      rintro x M' ⟨f', g', rfl, k'⟩ hx
      rw [hx, bnd_inr] at hsT
      refine go ok_Mo_readStation [] 100 ?_
      refine qLe k'.2.1 rfl (by omega) (by omega) (fun _ => ?_) (fun e => absurd e (by omega))
      refine ix st (show _ < 26 by omega) (by rw [nI_s8, Nat.zero_add]) ?_
      refine ix (8 + st) (show _ < 26 by omega) (nI_s8 _ _) ?_
      refine ix (16 + st) (show _ < 26 by omega) (nI_s8 _ _) ?_
      refine ix 24 (show _ < 26 by omega) rfl ?_
      refine ix 24 (show _ < 26 by omega) rfl ?_
      refine h2 _ _ hsT ⟨f', g', ?_, k'⟩
      have e3 : mT (stW3 B st n5 z6.1 x.1) f' g' = sI (sI (sI (mT B f' g') 66 0 st (nI n5)) 66 0 (8 + st) (nI z6.1)) 66 0 (16 + st) x.1 := by
        unfold stW3
        rw [mT_sIo (by omega), mT_sIo (by omega), mT_sIo (by omega)]
      have e4 : mT (stW4 B st n5 z6.1 x.1) f' g' = sI (sI (sI (sI (mT B f' g') 66 0 st (nI n5)) 66 0 (8 + st) (nI z6.1)) 66 0 (16 + st) x.1) 66 0 24 ((stW3 B st n5 z6.1 x.1).1 66 0 24 ||| b1 st) := by
        unfold stW4
        rw [← mT_sIo (by omega), e3]
      show _ = mT (stW B st n5 z6.1 x.1) f' g'
      unfold stW
      rw [← mT_sIo (by omega), e4]
      rfl
    refine brF (fun c => ?_) (fun c => ?_)
    · have c : isW T 6 (.inr z6.2) = false := c
      refine good (nI 0, z6.2) _ ⟨f4, g4, rfl, k4⟩ ?_
      unfold notO; rw [c]; rfl
    · have c : isW T 6 (.inr z6.2) = true := c
      have hno : notO T C z6.2 = notL T C 701 (nI 0) (tX T z6.2) := by unfold notO; rw [c]; rfl
      refine xc (d + 4) ok_Mo_readNot (r_readNot E d hT hC hB z6.2 k4) (by omega) ?_
      rintro r M5 ⟨v, rfl, q1, q2⟩
      cases hN : notL T C 701 (nI 0) (tX T z6.2) with
      | inl q =>
        refine bad q ?_ _ _ (q1 q hN)
        rw [hsT, hno, hN]; rfl
      | inr z =>
        obtain ⟨rfl, q3⟩ := q2 z hN
        exact good z _ q3 (by rw [hno, hN])
theorem r_readStation {f : Nat → Int32} {g : Int64} (hS : StrOK E) (hT : RTt T B) {C : Nat} (hC : C ≤ 10) (S : SP) (hD : PD T B C S) (h : TS T f g (.inr S.2.2.2.2)) : Mt E (d + 9) m_Mo_readStation [vP 60 0] (mT B f g) (fun r M' => r = none ∧ LnP T B C M' (stn T C S)) := by
  generalize hN : stn T C S = N
  obtain ⟨st, bd, P, nb, b⟩ := S
  have h : TS T f g (.inr b) := h
  obtain ⟨h1, ⟨h2, h2'⟩, h3, h4, h5, h6, h7⟩ := id hD
  dsimp only at h1 h2 h2' h3 h4 h5 h6 h7
  unfold stn at hN
  dsimp only at hN
  generalize hQ : (fun r M' => r = none ∧ LnP T B C M' N : Option AV → Me → Prop) = Q
  refine Mt.go ok_Mo_readStation [16] 60 rfl ?_
  have bad49 : ∀ q, N = .inl q → ∀ k M', TMe T B (.inl q) M' → Wp E (d + 9) m_Mo_readStation 49 [some (vP 60 0), some (vI (nI st)), some (vI k), none, none] [] M' Q := by
    rintro q rfl k M' ⟨f', g', rfl, k'⟩
    refine go ok_Mo_readStation [] 60 ?_
    obtain ⟨e1, e2, e3, e4, e5⟩ := id k'
    refine qNe e2 rfl (by omega) (by omega) (fun _ => ?_) (fun e => absurd e (by omega))
    refine qLe e2 rfl (by omega) (by omega) (fun e => absurd e (by omega)) (fun _ => ?_)
    rw [← hQ]
    exact And.intro rfl ⟨B, Fr_rf B, f', g', rfl, k'⟩
  have from16 : ∀ R M', R = (bif decide (st = 8) then .inl (4, b) else .inr b) → TMe T B R M' → Wp E (d + 9) m_Mo_readStation 16 [some (vP 60 0), some (vI (nI st)), none, none, none] [] M' Q := by
    rintro R M' hR ⟨f', g', rfl, k'⟩
    rw [← hR] at hN
    refine go ok_Mo_readStation [42, 47] 60 ?_
    refine xc (d + 2) ok_Mo_goOn (r_goOn E d hT k') (by omega) ?_
    rintro r M1 ⟨rfl, f1, g1, rfl, k1⟩
    match R, hR, k', k1, hN with
    | .inl q, hR, k', k1, hN =>
      obtain ⟨e1, e2, e3, e4, e5⟩ := id k1
      refine qNe e2 rfl (by omega) (by omega) (fun _ => ?_) (fun e => absurd e (by omega))
      refine go ok_Mo_readStation [49] 60 ?_
      exact bad49 q hN.symm _ _ ⟨f1, g1, rfl, k1⟩
    | .inr b0, hR, k', k1, hN =>
      have hst8 : st < 8 := by
        rcases Nat.lt_or_ge st 8 with e | e
        · exact e
        · rw [decide_eq_true (show st = 8 by omega)] at hR; cases hR
      have k1 : TS T f1 g1 (.inr (tX T b0)) := k1
      have hN : (bif !decide (tK T (tX T b0) = 2) || own T (.inr (tX T b0)) then .inl (1, tX T b0) else _) = N := hN
      generalize hb1 : tX T b0 = b1' at *
      obtain ⟨e1, e2, e3, e4, e5, e6, e7, e8, e9⟩ := id k1
      have hk := tK_lt T b1'
      have fl1 : (!decide (tK T b1' = 2) || own T (.inr b1')) = true → ∀ l2, Wp E (d + 9) m_Mo_readStation 42 [some (vP 60 0), some (vI (nI st)), l2, none, none] [] (mT B f1 g1) Q := by
        intro hc l2
        rw [hc] at hN
        refine go ok_Mo_readStation [47] 60 ?_
        refine xc d ok_Mo_flaw (r_flaw E d 1 (by omega) (by omega) k1) (by omega) ?_
        rintro r M2 ⟨rfl, k2⟩
        refine go ok_Mo_readStation [49] 60 ?_
        exact bad49 _ hN.symm _ _ k2
      have hg : tK T b1' = 2 → own T (.inr b1') = false → Wp E (d + 9) m_Mo_readStation 47 [some (vP 60 0), some (vI (nI st)), none, none, none] [] (mT B f1 g1) Q := by
        intro hk2 ho
        rw [decide_eq_true hk2, ho] at hN
        have hN : (bif dupN T st nb b1' then .inl (3, b1') else _) = N := hN
        have hw := tW_lt hk2
        have hg : (mT B f1 g1).2.1 60 0 13 = lN (tW T b1') := e9 hk2
        -- a new name
        have from89 : dupN T st nb b1' = false → ∀ l2, Wp E (d + 9) m_Mo_readStation 89 [some (vP 60 0), some (vI (nI st)), some (vI l2), none, none] [] (mT B f1 g1) Q := by
          intro hdp l2
          rw [hdp, cond_false] at hN
          refine go ok_Mo_readStation [119] 60 ?_
          refine qLe e2 rfl (by omega) (by omega) (fun _ => ?_) (fun e => absurd e (by omega))
          refine ix (8 + st) (show _ < 16 by omega) (nI_s8 _ _) ?_
          have eM : sJ (mT B f1 g1) 64 0 (8 + st) ((mT B f1 g1).2.1 60 0 13) = mT (sJ B 64 0 (8 + st) (lN (tW T b1'))) f1 g1 := by
            rw [hg, mT_sJo (by omega)]
          rw [eM]
          have hF1 : Fr B (sJ B 64 0 (8 + st) (lN (tW T b1'))) := Fr_sJ (Fr_rf B) (by omega)
          have hT1 := RTt_Fr hF1 hT
          refine xc (d + 2) ok_Mo_goOn (r_goOn E d hT1 k1) (by omega) ?_
          rintro r M2 ⟨rfl, k2⟩
          have k2 : TMe T (sJ B 64 0 (8 + st) (lN (tW T b1'))) (.inr (tX T b1')) M2 := k2
          refine xc (d + 8) ok_Mo_readPlace (r_readPlace E d hS hT1 st (fun _ _ => by omega) k2) (by omega) ?_
          rintro r M3 ⟨rfl, q1, q2⟩
          cases hp : plcR T (.inr (tX T b1')) with
          | inl q =>
            rw [hp] at hN
            have hN : (.inl q : FL ⊕ SP) = N := hN
            refine r_stTail E d hS hT1 hC h2' h1 Q (.inl q) (fun b e => by cases e) (fun q' M' e k => ?_) (fun z M' e k => by rw [stT_inl] at e; cases e) l2 none none M3 (q1 q hp)
            rw [stT_inl] at e; cases e
            rw [← hQ, ← hN]
            exact And.intro rfl ⟨_, hF1, k⟩
          | inr b4 =>
            rw [hp, bnd_inr] at hN
            have hF2 := Fr_plB (a := st) (x := plX T (tX T b1')) (y := plY T (tX T b1')) (z := plZ T (tX T b1')) hF1
            have hT2 := RTt_Fr hF2 hT
            have hB2 : (plB (sJ B 64 0 (8 + st) (lN (tW T b1'))) st (plX T (tX T b1')) (plY T (tX T b1')) (plZ T (tX T b1'))).1 60 0 20 = nI C := h1
            refine r_stTail E d hS hT2 hC h2' hB2 Q (.inr b4) (fun _ _ => hst8) (fun q' M' e k => ?_) (fun z M' e k => ?_) l2 none none M3 (q2 _ _ rfl hp)
            · rw [e] at hN
              have hN : (.inl q' : FL ⊕ SP) = N := hN
              rw [← hQ, ← hN]
              exact And.intro rfl ⟨_, hF2, k⟩
            · rw [e, bnd_inr] at hN
              rw [← hQ, ← hN]
              refine And.intro rfl ⟨_, Fr_stW hF2, k, ?_⟩
              exact PD_st (S := (st, bd, P, nb, b)) hD hst8 b1' z.2.2.2 _ _ _ _ _ _ hk2
        have loop : ∀ k, k ≤ st → (List.range k).any (fun k => decide (tW T (nb k) = tW T b1')) = false → Wp E (d + 9) m_Mo_readStation 49 [some (vP 60 0), some (vI (nI st)), some (vI (nI k)), none, none] [] (mT B f1 g1) Q := by
          refine loopUp st ?_ ?_
          · intro hd
            refine go ok_Mo_readStation [89] 60 ?_
            refine qNe e2 rfl (by omega) (by omega) (fun e => absurd e (by omega)) (fun _ => ?_)
            refine cLe (by omega) (by omega) (fun _ => ?_) (fun e => absurd e (by omega))
            exact from89 hd _
          · intro k hk3 ih hd
            refine go ok_Mo_readStation [49, 83] 60 ?_
            refine qNe e2 rfl (by omega) (by omega) (fun e => absurd e (by omega)) (fun _ => ?_)
            refine cLe (by omega) (by omega) (fun e => absurd e (by omega)) (fun _ => ?_)
            refine ix (8 + k) (show _ < 16 by omega) (nI_s8 _ _) ?_
            have en : (mT B f1 g1).2.1 64 0 (8 + k) = lN (tW T (nb k)) := (h4 k hk3).2.2.1
            have hw2 := tW_lt (h4 k hk3).2.2.2
            rw [en]
            have hg1 : g1 = lN (tW T b1') := hg
            refine And.intro (fun c => ?_) (fun c => ?_)
            · have c : ¬ lg_cmp (lN (tW T (nb k))) g1 = nI 0 := c
              rw [hg1] at c
              have : ¬ tW T (nb k) = tW T b1' := fun z => c ((cmpE (by omega) (by omega)).mpr z)
              refine go ok_Mo_readStation [49] 60 ?_
              refine nm_r (nI_add _ _) (ih ?_)
              rw [any_range_succ, hd, decide_eq_false this]; rfl
            · have c : lg_cmp (lN (tW T (nb k))) g1 = nI 0 := c
              rw [hg1] at c
              have : tW T (nb k) = tW T b1' := (cmpE (by omega) (by omega)).mp c
              have hdp : dupN T st nb b1' = true := List.any_eq_true.mpr ⟨k, List.mem_range.mpr hk3, decide_eq_true this⟩
              rw [hdp] at hN
              refine xc d ok_Mo_flaw (r_flaw E d 3 (by omega) (by omega) k1) (by omega) ?_
              rintro r M2 ⟨rfl, k2⟩
              refine go ok_Mo_readStation [49] 60 ?_
              exact nm_r (nI_add _ _) (bad49 _ hN.symm _ _ k2)
        refine go ok_Mo_readStation [49] 60 ?_
        exact loop 0 (Nat.zero_le _) rfl
      refine qNe e2 rfl (by omega) (by omega) (fun e => absurd e (by omega)) (fun _ => ?_)
      refine qNe e5 rfl (by omega) (by omega) (fun e => ?_) (fun e => ?_)
      · exact fl1 (by rw [decide_eq_false e]; rfl) none
      · refine xq (d + 7) ok_Mo_isOwn (r_isOwn E d hS k1) (by omega) ?_
        refine brF (fun c => ?_) (fun c => ?_)
        · exact hg e c
        · exact fl1 (by rw [c, Bool.or_true]) none
  refine qNe (show (mT B f g).1 60 0 21 = nI st from h2) rfl (by omega) (by omega) (fun e => ?_) (fun e => ?_)
  · have := from16 (.inr b) _ (by rw [decide_eq_false e]; rfl) ⟨f, g, rfl, h⟩
    rw [← h2] at this
    exact this
  · refine xc d ok_Mo_flaw (r_flaw E d 4 (by omega) (by omega) h) (by omega) ?_
    rintro r M2 ⟨rfl, k2⟩
    have := from16 (.inl (4, b)) _ (by rw [decide_eq_true e]; rfl) k2
    rw [← h2] at this
    exact this
theorem r_readBorder {f : Nat → Int32} {g : Int64} (hS : StrOK E) (hT : RTt T B) {C : Nat} (hC : C ≤ 10) (S : SP) (hD : PD T B C S) (h : TS T f g (.inr S.2.2.2.2)) : Mt E (d + 9) m_Mo_readBorder [vP 60 0] (mT B f g) (fun r M' => r = none ∧ LnP T B C M' (brd T C S)) := by
  generalize hN : brd T C S = N
  obtain ⟨st, bd, P, nb, b⟩ := S
  have h : TS T f g (.inr b) := h
  obtain ⟨h1, h2, ⟨h3, h3'⟩, h4, h5, h6, h7⟩ := id hD
  dsimp only at h1 h2 h3 h3' h4 h5 h6 h7
  unfold brd at hN
  dsimp only at hN
  generalize hQ : (fun r M' => r = none ∧ LnP T B C M' N : Option AV → Me → Prop) = Q
  refine Mt.go ok_Mo_readBorder [13] 60 rfl ?_
  have bad42 : ∀ q B', N = .inl q → Fr B B' → ∀ M', TMe T B' (.inl q) M' → Wp E (d + 9) m_Mo_readBorder 42 [some (vP 60 0), none] [] M' Q := by
    rintro q B' rfl hF M' ⟨f', g', rfl, k'⟩
    refine go ok_Mo_readBorder [] 60 ?_
    obtain ⟨e1, e2, e3, e4, e5⟩ := id k'
    refine qLe e2 rfl (by omega) (by omega) (fun e => absurd e (by omega)) (fun _ => ?_)
    rw [← hQ]
    exact And.intro rfl ⟨B', hF, f', g', rfl, k'⟩
  have from13 : ∀ R M', R = (bif decide (bd = 4) then .inl (4, b) else .inr b) → TMe T B R M' → Wp E (d + 9) m_Mo_readBorder 13 [some (vP 60 0), none] [] M' Q := by
    rintro R M' hR ⟨f', g', rfl, k'⟩
    rw [← hR] at hN
    have hR8 : ∀ b, gon T R = .inr b → 8 + bd < 12 := by
      intro b1 hb1
      rcases Nat.lt_or_ge bd 4 with e | e
      · omega
      · rw [decide_eq_true (show bd = 4 by omega)] at hR
        rw [hR] at hb1; cases hb1
    refine go ok_Mo_readBorder [28, 42] 60 ?_
    refine xc (d + 2) ok_Mo_goOn (r_goOn E d hT k') (by omega) ?_
    rintro r M1 ⟨rfl, f1, g1, rfl, k1⟩
    have hx := r_readPlace E d (T := T) (B := B) hS hT (8 + bd) hR8 ⟨f1, g1, rfl, k1⟩
    rw [← nI_s8, ← h3] at hx
    refine xc (d + 8) ok_Mo_readPlace hx (by omega) ?_
    rintro r M2 ⟨rfl, q1, q2⟩
    -- a fault in or ahead of the place
    have bad28 : ∀ q, N = .inl q → TMe T B (.inl q) M2 → Wp E (d + 9) m_Mo_readBorder 28 [some (vP 60 0), none] [] M2 Q := by
      rintro q hq ⟨f2, g2, rfl, k2⟩
      refine go ok_Mo_readBorder [42] 60 ?_
      refine xq (d + 6) ok_Mo_isWord (r_isWord E d hS 6 (by omega) k2) (by omega) ?_
      refine brN (fun e => by cases e) (fun _ => ?_)
      refine xc d ok_Mo_flaw (r_flaw E d 1 (by omega) (by omega) k2) (by omega) ?_
      rintro r M3 ⟨rfl, k3⟩
      exact bad42 q B hq (Fr_rf B) _ k3
    have join : Wp E (d + 9) m_Mo_readBorder 28 [some (vP 60 0), none] [] M2 Q := by
      cases hR1 : gon T R with
      | inl q =>
        rw [hR1] at hN q1
        exact bad28 q hN.symm (q1 q rfl)
      | inr b1' =>
        rw [hR1, bnd_inr] at hN
        rw [hR1] at q1 q2
        cases hp : plcR T (.inr b1') with
        | inl q =>
          rw [hp] at hN
          exact bad28 q hN.symm (q1 q hp)
        | inr b4 =>
          rw [hp, bnd_inr] at hN
          obtain ⟨f2, g2, rfl, k2⟩ := q2 b1' b4 rfl hp
          have hF2 := Fr_plB (a := 8 + bd) (x := plX T b1') (y := plY T b1') (z := plZ T b1') (Fr_rf B)
          have hT2 := RTt_Fr hF2 hT
          have hB2 : (plB B (8 + bd) (plX T b1') (plY T b1') (plZ T b1')).1 60 0 20 = nI C := h1
          have hbd := hR8 b1' hR1
          refine go ok_Mo_readBorder [42] 60 ?_
          refine xq (d + 6) ok_Mo_isWord (r_isWord E d hS 6 (by omega) k2) (by omega) ?_
          refine brN (fun c => ?_) (fun c => ?_)
          · rw [c, cond_true] at hN
            refine go ok_Mo_readBorder [] 60 ?_
            refine qLe k2.2.1 rfl (by omega) (by omega) (fun _ => ?_) (fun e => absurd e (by omega))
            refine xc (d + 4) ok_Mo_readNot (r_readNot E d hT2 hC hB2 b4 k2) (by omega) ?_
            rintro r M5 ⟨v, rfl, p1, p2⟩
            cases hL : notL T C 701 (nI 0) (tX T b4) with
            | inl q =>
              rw [hL] at hN
              have hN : (.inl q : FL ⊕ SP) = N := hN
              obtain ⟨f5, g5, rfl, k5⟩ := p1 q hL
              obtain ⟨e1, e2, e3, e4, e5⟩ := id k5
              refine qLe e2 rfl (by omega) (by omega) (fun e => absurd e (by omega)) (fun _ => ?_)
              rw [← hQ, ← hN]
              exact And.intro rfl ⟨_, hF2, f5, g5, rfl, k5⟩
            | inr z =>
              rw [hL, bnd_inr] at hN
              obtain ⟨rfl, f5, g5, rfl, k5⟩ := p2 z hL
              refine qLe k5.2.1 rfl (by omega) (by omega) (fun _ => ?_) (fun e => absurd e (by omega))
              refine ix (4 + bd) (show _ < 8 by omega) (by show nI 4 + B.1 60 0 22 = _; rw [h3, nI_s8]) ?_
              rw [← hQ, ← hN]
              refine And.intro rfl ⟨_, Fr_bdW (bd := bd) (s := z.1) hF2, ⟨f5, g5, ?_, k5⟩, ?_⟩
              · unfold bdW
                rw [← mT_sIo (by omega), ← mT_sIo (by omega)]
                rfl
              · exact PD_bd (S := (st, bd, P, nb, b)) hD (by show bd < 4; omega) z.2 _ _ _ _
          · rw [c, cond_false] at hN
            refine xc d ok_Mo_flaw (r_flaw E d 1 (by omega) (by omega) k2) (by omega) ?_
            rintro r M3 ⟨rfl, k3⟩
            exact bad42 _ _ hN.symm hF2 _ k3
    exact join
  refine qNe (show (mT B f g).1 60 0 22 = nI bd from h3) rfl (by omega) (by omega) (fun e => ?_) (fun e => ?_)
  · exact from13 (.inr b) _ (by rw [decide_eq_false e]; rfl) ⟨f, g, rfl, h⟩
  · refine xc d ok_Mo_flaw (r_flaw E d 4 (by omega) (by omega) h) (by omega) ?_
    rintro r M2 ⟨rfl, k2⟩
    exact from13 (.inl (4, b)) _ (by rw [decide_eq_true e]; rfl) k2
theorem r_readLine {f : Nat → Int32} {g : Int64} (hS : StrOK E) (hT : RTt T B) {C : Nat} (hC : C ≤ 10) (S : SP) (hD : PD T B C S) (h : TS T f g (.inr S.2.2.2.2)) : Mt E (d + 10) m_Mo_readLine [vP 60 0] (mT B f g) (fun r M' => r = none ∧ LnP T B C M' (lnR T C S)) := by
  generalize hN : lnR T C S = N
  unfold lnR at hN
  refine Mt.go ok_Mo_readLine [50, 47] 60 rfl ?_
  have fl : ∀ k, k = 1 ∨ k = 3 → N = .inl (k, S.2.2.2.2) → Wp E (d + 10) m_Mo_readLine 47 [some (vP 60 0)] [vI (nI k), vP 60 0] (mT B f g) (fun r M' => r = none ∧ LnP T B C M' N) := by
    rintro k hk rfl
    refine go ok_Mo_readLine [] 60 ?_
    refine xc d ok_Mo_flaw (r_flaw E d k (by omega) (by omega) h) (by omega) ?_
    rintro r M3 ⟨rfl, k3⟩
    exact And.intro rfl ⟨B, Fr_rf B, k3⟩
  have fin : ∀ M', LnP T B C M' N → Wp E (d + 10) m_Mo_readLine 50 [some (vP 60 0)] [] M' (fun r M' => r = none ∧ LnP T B C M' N) := by
    intro M' hM
    refine go ok_Mo_readLine [] 60 ?_
    exact And.intro rfl hM
  refine xq (d + 6) ok_Mo_isWord (r_isWord E d hS 1 (by omega) h) (by omega) ?_
  refine brF (fun c1 => ?_) (fun c1 => ?_)
  · rw [c1, cond_false] at hN
    refine xq (d + 6) ok_Mo_isWord (r_isWord E d hS 7 (by omega) h) (by omega) ?_
    refine brF (fun c2 => ?_) (fun c2 => ?_)
    · rw [c2, cond_false] at hN
      refine xq (d + 6) ok_Mo_isWord (r_isWord E d hS 0 (by omega) h) (by omega) ?_
      refine brF (fun c3 => ?_) (fun c3 => ?_)
      · rw [c3] at hN
        exact fl 1 (Or.inl rfl) hN.symm
      · rw [c3] at hN
        exact fl 3 (Or.inr rfl) hN.symm
    · rw [c2, cond_true] at hN
      refine xc (d + 9) ok_Mo_readBorder (r_readBorder E d hS hT hC S hD h) (by omega) ?_
      rintro r M3 ⟨rfl, k3⟩
      rw [hN] at k3
      exact fin _ k3
  · rw [c1, cond_true] at hN
    refine xc (d + 9) ok_Mo_readStation (r_readStation E d hS hT hC S hD h) (by omega) ?_
    rintro r M3 ⟨rfl, k3⟩
    rw [hN] at k3
    exact fin _ k3
end P6
