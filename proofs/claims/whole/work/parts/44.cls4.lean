/-! the class: station, border, heard, islands -/
theorem cq_no {M : Me} {p : AT} {t : Nat} (e : p = no t) : CQ M p (some (vI (-(nI 1)))) (sI M 0 0 11 (nI t)) := by
  subst e
  exact ⟨rfl, rfl⟩
theorem in3_no {y : Int32} {b : Nat} (h : y < nI 0) : in3 y b = false := by
  unfold in3; rw [decide_eq_false (Int32.not_le.mpr h)]; rfl
theorem in3_no2 {k b : Nat} (hk : k < 2 ^ 31) (hb : b < 2 ^ 31) (h : b < k) : in3 (nI k) b = false := by
  unfold in3
  rw [show decide (nI k ≤ nI b) = false from decide_eq_false (fun w => by
    have := (nI_leI hk hb).mp w
    omega), Bool.and_false]
theorem in3_ye {k b : Nat} (hk : k < 2 ^ 31) (hb : b < 2 ^ 31) (h : k ≤ b) : in3 (nI k) b = true := by
  unfold in3
  rw [decide_eq_true ((nI_leI (by omega) hk).mpr (Nat.zero_le k)), decide_eq_true ((nI_leI hk hb).mpr h)]; rfl
section C4
variable (E : EV) (d : Nat) (M : Me)
theorem c_station (h : CI M) (x y : Int32) : Mt E (d + 5) m_CS_station [vP 0 0, vI x, vI y] M (CQ M (qStation M x y)) := by
  obtain ⟨⟨hR, -⟩, hB, hx, hW, hN, hA⟩ := id h
  have h8 := hR.2.1.2
  refine Mt.go ok_CS_station [18, 24, 167] 60 rfl ?_
  have bad : qStation M x y = no 1 → Wp E (d + 5) m_CS_station 18 [some (vP 0 0), some (vI x), some (vI y)] [] M (CQ M (qStation M x y)) := by
    intro e
    refine go ok_CS_station [] 60 ?_
    exact x_cref E _ (nI 1) (by omega) (cq_no e)
  refine xq d ok_CS_isStation (c_isStation E d M h x) (by omega) ?_
  refine brF (fun q => ?_) (fun q => ?_)
  · exact bad (by unfold qStation; rw [if_pos q])
  · have hq : ¬ aSt M x = false := by rw [q]; decide
    refine And.intro (fun z => ?_) (fun z => ?_)
    · refine bad ?_
      have hne : ∀ j, j < 9 → ¬ y = nI j := fun j hj e => by
        rw [e] at z
        have := (nI_ltI (by omega) (by omega)).mp z
        omega
      unfold qStation
      rw [if_neg hq, if_neg (hne 0 (by omega)), if_neg (hne 1 (by omega)), if_neg (hne 2 (by omega)), if_neg (hne 3 (by omega)), if_neg (hne 4 (by omega)), if_neg (hne 5 (by omega)), if_neg (hne 6 (by omega)), if_neg (hne 7 (by omega))]
    · obtain ⟨k, hk, rfl⟩ := nneg (Int32.not_lt.mp z)
      refine cLe hk (by omega) (fun w => ?_) (fun w => ?_)
      · obtain ⟨s, hs, rfl⟩ := aSt_at hR q
        have ht : tN (nI s) = s := tN_nI (by omega)
        obtain ⟨p1, p2, p3⟩ := hW.2.2.1 s hs
        obtain ⟨n1, n2, n3⟩ := hN.2.2 s hs
        refine go ok_CS_station [167] 60 ?_
        refine And.intro (fun o => ?_) (And.intro (fun e => ?_) (And.intro (fun e => ?_) (And.intro (fun e => ?_) (And.intro (fun e => ?_) (And.intro (fun e => ?_) (And.intro (fun e => ?_) (And.intro (fun e => ?_) trivial)))))))
        · have k8 : k = 7 := by
            rcases o with o | o
            · have := (nI_ltI hk (by omega)).mp o; omega
            · have := (nI_ltI (by omega) hk).mp o; omega
          subst k8
          refine ix s (show _ < 8 by omega) rfl ?_
          refine x_cans E _ _ (by omega) (cq_ye ?_)
          have e : qStation M (nI s) (nI 7) = ye (M.1 65 0 (16 + s)) := by
            unfold qStation
            rw [if_neg hq, if_neg (by decide), if_neg (by decide), if_neg (by decide), if_neg (by decide), if_neg (by decide), if_neg (by decide), if_neg (by decide), if_pos rfl, ht]
          refine e.trans ?_
          rw [← n3]
        · rw [e]
          refine ix s (show _ < 8 by omega) rfl ?_
          refine x_cans E _ _ (by omega) (cq_ye ?_)
          have e : qStation M (nI s) (nI 0) = ye (M.1 62 0 (3 * s)) := by
            unfold qStation
            rw [if_neg hq, if_pos rfl, ht]
          refine e.trans ?_
          rw [← p1]
        · rw [e]
          refine ix s (show _ < 8 by omega) rfl ?_
          refine x_cans E _ _ (by omega) (cq_ye ?_)
          have e : qStation M (nI s) (nI 1) = ye (M.1 62 0 (3 * s + 1)) := by
            unfold qStation
            rw [if_neg hq, if_neg (by decide), if_pos rfl, ht]
          refine e.trans ?_
          rw [← p2]
        · rw [e]
          refine ix s (show _ < 8 by omega) rfl ?_
          refine x_cans E _ _ (by omega) (cq_ye ?_)
          have e : qStation M (nI s) (nI 2) = ye (M.1 62 0 (3 * s + 2)) := by
            unfold qStation
            rw [if_neg hq, if_neg (by decide), if_neg (by decide), if_pos rfl, ht]
          refine e.trans ?_
          rw [← p3]
        · rw [e]
          refine ix s (show _ < 8 by omega) rfl ?_
          refine x_cans E _ _ (by omega) (cq_ye ?_)
          have e : qStation M (nI s) (nI 3) = ye (M.1 65 0 s) := by
            unfold qStation
            rw [if_neg hq, if_neg (by decide), if_neg (by decide), if_neg (by decide), if_pos rfl, ht]
          refine e.trans ?_
          rw [← n1]
        · rw [e]
          refine ix s (show _ < 8 by omega) rfl ?_
          refine x_cans E _ _ (by omega) (cq_ye ?_)
          have e : qStation M (nI s) (nI 4) = ye (M.1 65 0 (8 + s)) := by
            unfold qStation
            rw [if_neg hq, if_neg (by decide), if_neg (by decide), if_neg (by decide), if_neg (by decide), if_pos rfl, ht]
          refine e.trans ?_
          rw [← n2]
        · have e5 : qStation M (nI s) (nI 5) = ye (bI (aOn M s)) := by
            unfold qStation
            rw [if_neg hq, if_neg (by decide), if_neg (by decide), if_neg (by decide), if_neg (by decide), if_neg (by decide), if_pos rfl, ht]
          have fin : ∀ v, v = bI (aOn M s) → Wp E (d + 5) m_CS_station 167 [some (vP 0 0), some (vI (nI s)), some (vI (nI 5))] [vI v, vP 0 0] M (CQ M (qStation M (nI s) (nI 5))) := by
            rintro v rfl
            refine go ok_CS_station [] 60 ?_
            exact x_cans E _ _ (by omega) (cq_ye e5)
          rw [e]
          refine xq d ok_CS_has (c_has E d M _ s (by omega)) (by omega) ?_
          have ea : bt (M.1 4 0 3) s = aOn M s := by rw [hN.1]; rfl
          rw [ea]
          refine brF (fun a => ?_) (fun a => ?_)
          · exact fin _ (by rw [a]; rfl)
          · exact fin _ (by rw [a]; rfl)
        · rw [e]
          refine xq d ok_Now_listOf (c_listOf E d M hW hN s hs (by omega)) (by omega) ?_
          refine x_cans E _ _ (by omega) (cq_ye ?_)
          show qStation M (nI s) (nI 6) = _
          unfold qStation
          rw [if_neg hq, if_neg (by decide), if_neg (by decide), if_neg (by decide), if_neg (by decide), if_neg (by decide), if_neg (by decide), if_pos rfl, ht]
      · refine bad ?_
        have hne : ∀ j, j < 8 → ¬ nI k = nI j := fun j hj e => by
          have := (nI_eq hk (by omega)).mp e
          omega
        unfold qStation
        rw [if_neg hq, if_neg (hne 0 (by omega)), if_neg (hne 1 (by omega)), if_neg (hne 2 (by omega)), if_neg (hne 3 (by omega)), if_neg (hne 4 (by omega)), if_neg (hne 5 (by omega)), if_neg (hne 6 (by omega)), if_neg (hne 7 (by omega))]
theorem c_border (h : CI M) (x y : Int32) : Mt E (d + 1) m_CS_border [vP 0 0, vI x, vI y] M (CQ M (qBorder M x y)) := by
  obtain ⟨⟨hR, -⟩, hB, hx, hW, hN, hA⟩ := id h
  have h8 := hR.2.1.2
  obtain ⟨hb1, hb4⟩ := hR.2.2.1
  have hc : M.1 36 (pl M) 5 = nI (bN M) := by rw [hW.1.2.2.1, hb1]
  refine Mt.go ok_CS_border [34, 40] 60 rfl ?_
  have bad : qBorder M x y = no 1 → Wp E (d + 1) m_CS_border 34 [some (vP 0 0), some (vI x), some (vI y)] [] M (CQ M (qBorder M x y)) := by
    intro e
    refine go ok_CS_border [] 60 ?_
    exact x_cref E _ (nI 1) (by omega) (cq_no e)
  refine xq d ok_CS_hasText (c_hasText E d M h) (by omega) ?_
  refine brF (fun q => ?_) (fun q => ?_)
  · refine bad ?_
    unfold qBorder; rw [q, Bool.false_and, if_pos rfl]
  · refine And.intro (fun z => ?_) (fun z => ?_)
    · refine bad ?_
      unfold qBorder
      rw [show decide (nI 0 ≤ x) = false from decide_eq_false (Int32.not_le.mpr z), Bool.false_and, Bool.and_false, if_pos rfl]
    · obtain ⟨b, hb, rfl⟩ := nneg (Int32.not_lt.mp z)
      refine qLe hc rfl (by omega) hb (fun w => ?_) (fun w => ?_)
      · refine bad ?_
        have : decide (nI b ≤ nI (bN M) - nI 1) = false := by
          refine decide_eq_false (fun v => ?_)
          rcases Nat.eq_zero_or_pos (bN M) with e | e
          · rw [e] at v
            have v := Int32.le_iff_toInt_le.mp v
            rw [nI_toInt hb, show (nI 0 - nI 1).toInt = -1 by decide] at v
            omega
          · rw [nI_m1 e] at v
            have := (nI_leI hb (by omega)).mp v
            omega
        unfold qBorder
        rw [this, Bool.and_false, Bool.and_false, if_pos rfl]
      · have hq : ¬ (hT M && (decide (nI 0 ≤ nI b) && decide (nI b ≤ nI (bN M) - nI 1))) = false := by
          rw [q, decide_eq_true (Int32.not_lt.mp z), nI_m1 (by omega), decide_eq_true ((nI_leI hb (by omega)).mpr (by omega))]; decide
        refine And.intro (fun v => ?_) (fun v => ?_)
        · refine bad ?_
          unfold qBorder
          rw [if_neg hq, if_pos (in3_no v)]
        · obtain ⟨k, hk, rfl⟩ := nneg (Int32.not_lt.mp v)
          refine cLe hk (by omega) (fun u => ?_) (fun u => ?_)
          · have hi : ¬ in3 (nI k) 4 = false := by rw [in3_ye hk (by omega) u]; decide
            have ht : tN (nI b) = b := tN_nI hb
            obtain ⟨p1, p2, p3, p4, p5⟩ := hW.2.2.2 b w
            refine go ok_CS_border [] 60 ?_
            refine And.intro (fun o => ?_) (And.intro (fun e => ?_) (And.intro (fun e => ?_) (And.intro (fun e => ?_) (And.intro (fun e => ?_) trivial))))
            · have k8 : k = 4 := by
                rcases o with o | o
                · have := (nI_ltI hk (by omega)).mp o; omega
                · have := (nI_ltI (by omega) hk).mp o; omega
              subst k8
              refine ix b (show _ < 4 by omega) rfl ?_
              refine x_cans E _ _ (by omega) (cq_ye ?_)
              unfold qBorder
              rw [if_neg hq, if_neg hi, if_neg (by decide), if_neg (by decide), ht]
              exact congrArg ye p5.symm
            · rw [e] at hi ⊢
              refine ix b (show _ < 4 by omega) rfl ?_
              refine x_cans E _ _ (by omega) (cq_ye ?_)
              unfold qBorder
              rw [if_neg hq, if_neg hi, if_pos (by decide), ht]
              exact congrArg ye p1.symm
            · rw [e] at hi ⊢
              refine ix b (show _ < 4 by omega) rfl ?_
              refine x_cans E _ _ (by omega) (cq_ye ?_)
              unfold qBorder
              rw [if_neg hq, if_neg hi, if_pos (by decide), ht]
              exact congrArg ye p2.symm
            · rw [e] at hi ⊢
              refine ix b (show _ < 4 by omega) rfl ?_
              refine x_cans E _ _ (by omega) (cq_ye ?_)
              unfold qBorder
              rw [if_neg hq, if_neg hi, if_pos (by decide), ht]
              exact congrArg ye p3.symm
            · rw [e] at hi ⊢
              refine ix b (show _ < 4 by omega) rfl ?_
              refine x_cans E _ _ (by omega) (cq_ye ?_)
              unfold qBorder
              rw [if_neg hq, if_neg hi, if_neg (by decide), if_pos (by decide), ht]
              exact congrArg ye p4.symm
          · refine bad ?_
            unfold qBorder
            rw [if_neg hq, if_pos (in3_no2 hk (by omega) u)]
theorem c_heard (h : CI M) (x y z : Int32) : Mt E (d + 2) m_CS_heard [vP 0 0, vI x, vI y, vI z] M (CQ M (qHeard M x y z)) := by
  obtain ⟨⟨hR, -⟩, hB, hx, hW, hN, hA⟩ := id h
  have h8 := hR.2.1.2
  have hc : M.1 31 (pl M) 5 = nI (sN M) := by rw [hW.1.2.1, hR.2.1.1]
  generalize hQ : CQ M (qHeard M x y z) = Q
  refine Mt.go ok_CS_heard [22] 60 rfl ?_
  -- both asked
  have from41 : ∀ a b, a = (hT M && in3 z 2) → b = (in3 x 99 && in3 y 99) → Wp E (d + 2) m_CS_heard 41 [some (vP 0 0), some (vI x), some (vI y), some (vI z), none, none, none, none, none] [vI (bI b), vI (bI a), vP 0 0] M Q := by
    rintro a b ha hb
    refine go ok_CS_heard [71, 91] 60 ?_
    refine xc d ok_CS_isRefused (c_isRefused E d M a b) (by omega) ?_
    rintro r M1 ⟨rfl, rfl⟩
    cases a with
    | false =>
      refine And.intro (fun e => absurd (show nI 1 = nI 0 from e) (by decide)) (fun _ => ?_)
      rw [← hQ]
      exact cq_no (by unfold qHeard; rw [if_pos ha.symm]; rfl)
    | true =>
      have hq1 : ¬ (hT M && in3 z 2) = false := by rw [← ha]; decide
      cases b with
      | false =>
        refine And.intro (fun e => absurd (show nI 1 = nI 0 from e) (by decide)) (fun _ => ?_)
        rw [← hQ]
        exact cq_no (by unfold qHeard; rw [if_neg hq1, if_pos hb.symm]; rfl)
      | true =>
        have hq2 : ¬ (in3 x 99 && in3 y 99) = false := by rw [← hb]; decide
        refine And.intro (fun _ => ?_) (fun e => absurd (show nI 0 = nI 0 from rfl) e)
        have hz : in3 z 2 = true := by
          have ha2 := ha.symm
          rw [Bool.and_eq_true] at ha2
          exact ha2.2
        obtain ⟨k, hk, rfl⟩ := in3_at (b := 2) (by omega) hz
        refine xq (d + 1) ok_Sites_reaching (c_reaching E d (sI M 0 0 11 (nI 0)) 31 (pl M) (Or.inl rfl) 8 (Or.inl ⟨rfl, rfl⟩) hW.1.2.2.2.1 (sN M) hc h8 x y) (by omega) ?_
        have eset : mkS (fun k => decide (cFar (sI M 0 0 11 (nI 0)) 31 (pl M) k x y ≤ (sI M 0 0 11 (nI 0)).1 (31 + 3) (pl M) k * (sI M 0 0 11 (nI 0)).1 (31 + 3) (pl M) k)) (sN M) &&& (sI M 0 0 11 (nI 0)).1 4 0 3 = mkS (hrd M x y) (sN M) := by
          apply b_ext
          intro i hi
          rw [b_and, mkS_at _ _ _ (by omega) hi, mkS_at _ _ _ (by omega) hi, show (sI M 0 0 11 (nI 0)).1 4 0 3 = M.1 65 0 24 from hN.1]
          by_cases e : i < sN M
          · obtain ⟨p1, p2, p3⟩ := hW.2.2.1 i e
            unfold hrd cFar aRch
            rw [show (sI M 0 0 11 (nI 0)).1 (31 + 1) (pl M) i = _ from p1, show (sI M 0 0 11 (nI 0)).1 (31 + 2) (pl M) i = _ from p2, show (sI M 0 0 11 (nI 0)).1 (31 + 3) (pl M) i = _ from p3, decide_eq_true e, Bool.true_and, Bool.true_and, Bool.and_comm]; rfl
          · rw [decide_eq_false e]; rfl
        suffices from71 : ∀ S, S = mkS (hrd M x y) (sN M) → Wp E (d + 2) m_CS_heard 71 [some (vP 0 0), some (vI x), some (vI y), some (vI (nI k)), some (vI S), none, none, none, none] [] (sI M 0 0 11 (nI 0)) Q from from71 _ eset
        rintro S rfl
        refine go ok_CS_heard [91] 60 ?_
        refine cNe (by omega) (by omega) (fun k0 => ?_) (fun k0 => ?_)
        · have key : ∀ t, t ≤ sN M → ∀ a b, a = hOnce (hrd M x y) (oN M) t → b = hTwice (hrd M x y) (oN M) t → ∀ j8, Wp E (d + 2) m_CS_heard 91 [some (vP 0 0), some (vI x), some (vI y), some (vI (nI k)), some (vI (mkS (hrd M x y) (sN M))), some (vI a), some (vI b), some (vI (nI t)), j8] [] (sI M 0 0 11 (nI 0)) Q := by
            refine loopUp (sN M) ?_ ?_
            · rintro a b rfl rfl j8
              refine go ok_CS_heard [] 60 ?_
              refine qLe hc rfl (by omega) (by omega) (fun _ => ?_) (fun q => absurd q (by omega))
              refine cNe (by omega) (by omega) (fun k1 => ?_) (fun k1 => ?_)
              · refine x_cans E _ _ (by omega) ?_
                rw [sI_sI, ← hQ]
                refine cq_ye ?_
                obtain rfl : k = 2 := by omega
                unfold qHeard; rw [if_neg hq1, if_neg hq2, if_neg (by decide), if_neg (by decide)]
              · refine x_cans E _ _ (by omega) ?_
                rw [sI_sI, ← hQ]
                refine cq_ye ?_
                subst k1
                unfold qHeard; rw [if_neg hq1, if_neg hq2, if_neg (by decide), if_pos rfl]
            · rintro t ht ih a b rfl rfl j8
              refine go ok_CS_heard [91] 60 ?_
              refine qLe hc rfl (by omega) (by omega) (fun q => absurd q (by omega)) (fun _ => ?_)
              refine xq d ok_CS_has (c_has E d _ _ t (by omega)) (by omega) ?_
              rw [mkS_at _ _ _ (by omega) (by omega), decide_eq_true ht, Bool.true_and]
              refine brF (fun q => ?_) (fun q => ?_)
              · refine nm_r (nI_add _ _) (ih _ _ ?_ ?_ _)
                · rw [hOnce, q]; rfl
                · rw [hTwice, q]; rfl
              · obtain ⟨o1, o2, o3⟩ := hR.2.2.2 t ht
                refine ix t (show _ < 8 by omega) rfl ?_
                have hx := c_channelBit E d (sI M 0 0 11 (nI 0)) (oN M t) o2
                rw [← o1, ← (hN.2.2 t ht).1] at hx
                refine xq d ok_CS_channelBit hx (by omega) ?_
                refine nm_r (nI_add _ _) (ih _ _ ?_ ?_ _)
                · rw [hOnce, q]; rfl
                · rw [hTwice, q]; rfl
          exact key 0 (Nat.zero_le _) _ _ rfl rfl _
        · refine x_cans E _ _ (by omega) ?_
          rw [sI_sI, ← hQ]
          refine cq_ye ?_
          subst k0
          unfold qHeard; rw [if_neg hq1, if_neg hq2, if_pos rfl]
  have from22 : ∀ a, a = (hT M && in3 z 2) → Wp E (d + 2) m_CS_heard 22 [some (vP 0 0), some (vI x), some (vI y), some (vI z), none, none, none, none, none] [vI (bI a), vP 0 0] M Q := by
    intro a ha
    refine go ok_CS_heard [41] 60 ?_
    refine xq d ok_CS_isPlace (c_isPlace E d M x) (by omega) ?_
    refine brF (fun q => ?_) (fun q => ?_)
    · exact from41 a false ha (by rw [q]; rfl)
    · refine xq d ok_CS_isPlace (c_isPlace E d M y) (by omega) ?_
      refine brF (fun q2 => ?_) (fun q2 => ?_)
      · exact from41 a false ha (by rw [q2, Bool.and_false])
      · exact from41 a true ha (by rw [q, q2]; rfl)
  refine xq d ok_CS_hasText (c_hasText E d M h) (by omega) ?_
  refine brF (fun q => ?_) (fun q => ?_)
  · exact from22 false (by rw [q]; rfl)
  · refine And.intro (fun w => ?_) (fun w => ?_)
    · exact from22 false (by rw [in3_no w, Bool.and_false])
    · obtain ⟨k, hk, rfl⟩ := nneg (Int32.not_lt.mp w)
      refine cLt (by omega) hk (fun u => ?_) (fun u => ?_)
      · exact from22 false (by rw [in3_no2 hk (by omega) u, Bool.and_false])
      · exact from22 true (by rw [q, in3_ye hk (by omega) u]; rfl)
theorem c_islands (h : CI M) (y : Int32) : Mt E (d + 2) m_CS_islands [vP 0 0, vI y] M (CQ M (qIslands M y)) := by
  obtain ⟨⟨hR, -⟩, hB, hx, hW, hN, hA⟩ := id h
  have h8 := hR.2.1.2
  have hc : M.1 31 (pl M) 5 = nI (sN M) := by rw [hW.1.2.1, hR.2.1.1]
  refine Mt.go ok_CS_islands [16, 22] 60 rfl ?_
  have bad : (hT M && in3 y 2) = false → Wp E (d + 2) m_CS_islands 16 [some (vP 0 0), some (vI y), none, none, none, none, none] [] M (CQ M (qIslands M y)) := by
    intro e
    refine go ok_CS_islands [] 60 ?_
    exact x_cref E _ (nI 1) (by omega) (cq_no (by unfold qIslands; rw [if_pos e]))
  refine xq d ok_CS_hasText (c_hasText E d M h) (by omega) ?_
  refine brF (fun q => ?_) (fun q => ?_)
  · exact bad (by rw [q]; rfl)
  · refine And.intro (fun z => ?_) (fun z => ?_)
    · exact bad (by rw [in3_no z, Bool.and_false])
    · obtain ⟨k, hk, rfl⟩ := nneg (Int32.not_lt.mp z)
      refine cLe hk (by omega) (fun u => ?_) (fun u => ?_)
      · have hq1 : ¬ (hT M && in3 (nI k) 2) = false := by rw [q, in3_ye hk (by omega) u]; decide
        generalize hil : (fun s => isl (aS M) (aClash M) (sN M) s) = il
        have hilS : ∀ s, s < sN M → isSm (il s) := by
          intro s hs
          rw [← hil]
          exact isl_sm h8 hs
        have hsm : ∀ t, t ≤ sN M → isSm (isF (M.1 65 0 24) il t).2.2 := by
          intro t
          induction t with
          | zero => intro _; exact ⟨0, by omega, rfl⟩
          | succ t ih =>
            intro ht
            rw [isF]
            cases bt (isF (M.1 65 0 24) il t).1 t with
            | false => exact ih (by omega)
            | true =>
              rw [cond_true]
              dsimp only
              cases decide (aBits (isF (M.1 65 0 24) il t).2.2 16 < aBits (il t) 16) with
              | false => exact ih (by omega)
              | true => exact hilS t (by omega)
        have hI : aIsl M = isF (M.1 65 0 24) il (sN M) := by unfold aIsl; rw [hil]
        have key : ∀ t, t ≤ sN M → ∀ w, w = isF (M.1 65 0 24) il t → ∀ j6, Wp E (d + 2) m_CS_islands 38 [some (vP 0 0), some (vI (nI k)), some (vI (nI w.2.1)), some (vI w.2.2), some (vI w.1), some (vI (nI t)), j6] [] M (CQ M (qIslands M (nI k))) := by
          refine loopUp (sN M) ?_ ?_
          · rintro w rfl j6
            rw [← hI]
            refine go ok_CS_islands [138] 60 ?_
            refine qLe hc rfl (by omega) (by omega) (fun _ => ?_) (fun q => absurd q (by omega))
            have fin : ∀ v, qIslands M (nI k) = ye v → Wp E (d + 2) m_CS_islands 138 [some (vP 0 0), some (vI (nI k)), some (vI (nI (aIsl M).2.1)), some (vI (aIsl M).2.2), some (vI (aIsl M).1), some (vI (nI (sN M))), j6] [vI v, vP 0 0] M (CQ M (qIslands M (nI k))) := by
              intro v e
              refine go ok_CS_islands [] 60 ?_
              exact x_cans E _ _ (by omega) (cq_ye e)
            refine cNe (by omega) (by omega) (fun k0 => ?_) (fun k0 => ?_)
            · refine cNe (by omega) (by omega) (fun k1 => ?_) (fun k1 => ?_)
              · refine fin _ ?_
                obtain rfl : k = 2 := by omega
                unfold qIslands; rw [if_neg hq1, if_neg (by decide), if_neg (by decide)]
              · have hS := hsm (sN M) (Nat.le_refl _)
                rw [← hI] at hS
                refine xq d ok_Integer_bitCount (c_bitCountS E d M hS) (by omega) ?_
                refine fin _ ?_
                subst k1
                unfold qIslands; rw [if_neg hq1, if_neg (by decide), if_pos rfl]
            · refine x_cans E _ _ (by omega) (cq_ye ?_)
              subst k0
              unfold qIslands; rw [if_neg hq1, if_pos rfl]
          · rintro t ht ih w rfl j6
            refine go ok_CS_islands [38] 60 ?_
            refine qLe hc rfl (by omega) (by omega) (fun q => absurd q (by omega)) (fun _ => ?_)
            refine xq d ok_CS_has (c_has E d _ _ t (by omega)) (by omega) ?_
            refine brF (fun q => ?_) (fun q => ?_)
            · refine nm_r (nI_add _ _) ?_
              have := ih _ rfl j6
              rw [isF, q, cond_false] at this
              exact this
            · refine xq (d + 1) ok_Plan_islandOf (c_islandOf E d M hR hW t ht _ hN.1) (by omega) ?_
              have eil : isl (aS M) (aClash M) (sN M) t = il t := by rw [← hil]
              rw [eil]
              refine nm_r (nI_add _ _) ?_
              refine xq d ok_Integer_bitCount (c_bitCountS E d M (hilS t ht)) (by omega) ?_
              refine xq d ok_Integer_bitCount (c_bitCountS E d M (hsm t (by omega))) (by omega) ?_
              refine And.intro (fun w => ?_) (fun w => ?_)
              · refine nm_r (nI_add _ _) ?_
                have := ih _ rfl (some (vI (il t)))
                rw [isF, q, cond_true, decide_eq_false (Int32.not_lt.mpr w)] at this
                exact this
              · refine nm_r (nI_add _ _) ?_
                have := ih _ rfl (some (vI (il t)))
                rw [isF, q, cond_true, decide_eq_true (Int32.not_le.mp w)] at this
                exact this
        refine go ok_CS_islands [38] 60 ?_
        have := key 0 (Nat.zero_le _) _ rfl none
        rw [isF, ← hN.1] at this
        exact this
      · exact bad (by rw [in3_no2 hk (by omega) u, Bool.and_false])
end C4
