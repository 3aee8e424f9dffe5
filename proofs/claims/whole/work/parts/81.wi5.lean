/-! acts that search: lay, clear -/
theorem clR_fc {M M3 : Me} (f : FC M M3) {i r k : Nat} (h : ¬ (14 ≤ i ∧ i ≤ 27)) (h2 : ¬ (i = 0 ∧ k = 11)) : (clR M3).1 i r k = (clR M).1 i r k := by
  have e1 : hx M3 = hx M := by rw [FC_eq f]; rfl
  have e2 : hz M3 = hz M := by rw [FC_eq f]; rfl
  have e3 : snp M3 = snp M := by rw [FC_eq f]; rfl
  rw [clR_is, clR_is, e1, e2, e3, f.1 i r k (scC_i.mpr (by omega))]
theorem k_actS (E : EV) {mC mM : MC} {as : List AV} (t : Me → Nat) (v : Me → Int32) (R : Me → Me → Me) (Nr : Me → Me) (dc d' : Nat) (hdc : dc < 41) (hd' : d' < 41)
    (hc : ∀ n M, n + 1 < 2000 → WI M n → Mt E dc mC (vP 0 0 :: as) M (AS M n (t M) (v M) (R M)))
    (hr : ∀ M, RX M → RA M → RRe M → Mt E d' mM (vP 60 0 :: as) M (RTs M (t M) (v M) (Nr M)))
    (t4 : ∀ M, t M = 0 ∨ t M = 1 ∨ t M = 2 ∨ t M = 5 ∨ t M = 6)
    (tc : ∀ M M1, FC M M1 → t M1 = t M)
    (tc2 : ∀ M M3, FC M M3 → t (sI (R M M3) 0 0 11 (nI 0)) = t M) (vc2 : ∀ M M3, FC M M3 → v (sI (R M M3) 0 0 11 (nI 0)) = v M)
    (X : ∀ M M3, FC M M3 → RX M → RX (sI (R M M3) 0 0 11 (nI 0))) (A : ∀ M M3, FC M M3 → RA M → RA (sI (R M M3) 0 0 11 (nI 0))) (Y : ∀ M M3, FC M M3 → RRe M → RRe (sI (R M M3) 0 0 11 (nI 0)))
    (fin : ∀ n M M3 M2, n + 1 < 2000 → WI M n → t M = 0 → FC M M3 → KNm M3 (n + 1) → AgR (Nr (sI (R M M3) 0 0 11 (nI 0))) M2 → RRe M2 → M2.1 60 0 1 = nI 0 → M2.1 60 0 2 = -(nI 1) → WI M2 (n + 1)) : Call2 E mC mM as := by
  intro n M hn h
  have hC := WI_CI h
  have hA := WI_RA h
  have hr0 := h.2.2.2.2
  refine CallK.mk dc hdc (hc n M hn h) ?_
  rintro r M1 (⟨h0, rfl, f1, e1, k1⟩ | ⟨h0, rfl, M3, f3, k3, rfl⟩)
  · have hA1 : RA M1 := by
      rw [FC_eq f1]; exact hA
    refine ⟨_, rfl, CallK.mk d' hd' (hr M1 (CI_fc f1 hC).1 hA1 (RRe_fc hr0 f1)) ?_⟩
    rintro r M2 (⟨g0, rfl, f2, r2, -, e2, e3⟩ | ⟨g0, -⟩)
    · rw [tc M M1 f1] at e2
      exact ⟨rfl, WI_q h f1 e1 k1 f2 r2 e2 e3 (g4_no (t4 M))⟩
    · rw [tc M M1 f1] at g0
      exact absurd g0 h0
  · refine ⟨_, rfl, CallK.mk d' hd' (hr _ (X M M3 f3 hC.1) (A M M3 f3 hA) (Y M M3 f3 hr0)) ?_⟩
    rintro r M2 (⟨g0, -⟩ | ⟨-, rfl, f2, r2, -, e2, e3⟩)
    · rw [tc2 M M3 f3] at g0
      exact absurd h0 g0
    · rw [vc2 M M3 f3]
      exact ⟨rfl, fin n M M3 M2 hn h h0 f3 k3 f2 r2 e2 e3⟩
section K3
variable (E : EV)
theorem k_lay (x : Int32) : Call2 E m_CS_lay m_Mo_lay [vI x] := by
  refine k_actS E (fun M => tLay M x) (fun M => nI (sqL M (tN x))) (fun M M3 => setR (clR M3) 5 0 0 (sN M) (fun t => nI (sqB M (tN x) t))) (fun M => nLay M x) _ _ (by omega) (by omega) (fun n M hn h => c_lay E 0 M (WI_CI h) (WI_RH h) n h.2.2.2.1 hn x) (fun M hX hA hr => r_lay E 0 M hX hA hr x) (fun M => ?_) (fun M M1 f => ?_) (fun M M3 f => ?_) (fun M M3 f => ?_) (fun M M3 f h => ?_) (fun M M3 f h => ?_) (fun M M3 f h => ?_) (fun n M M3 M2 hn h h0 f3 k3 f2 r2 e2 e3 => ?_)
  · unfold tLay
    cases hT M <;> cases aCh M x <;> cases (aSq M (tN x)).isSome <;> simp
  · rw [FC_eq f]; rfl
  · rw [FC_eq f]; rfl
  · rw [FC_eq f]; rfl
  · rw [FC_eq f]; exact h
  · rw [FC_eq f]; exact h
  · rw [FC_eq f]; exact h
  · have hC := WI_CI h
    have h8 := hC.1.1.2.1.2
    obtain ⟨n1, n2, n3⟩ := hC.2.2.2.2.1
    obtain ⟨v1, v2, v3⟩ := h.2.1.1.1
    have q2 : aCh M x = true := by
      unfold tLay at h0
      cases q : hT M with
      | false => rw [q] at h0; cases h0
      | true =>
        rw [q] at h0
        cases q2 : aCh M x with
        | true => rfl
        | false => rw [q2] at h0; cases h0
    obtain ⟨c, hc1, hc2, rfl⟩ := aCh_at hC.1.1 q2
    have hc10 := hC.1.1.1.2
    have ec : tN (nI c) = c := tN_nI (by omega)
    have hb : ∀ t, t < sN M → 1 ≤ sqB M (tN (nI c)) t ∧ sqB M (tN (nI c)) t ≤ 10 := by
      intro t ht
      rw [ec]
      cases hq : aSq M c with
      | none =>
        unfold tLay at h0
        rw [ec, hq] at h0
        cases h1 : hT M <;> rw [h1] at h0
        · cases h0
        · rw [q2] at h0; cases h0
      | some ρ =>
        have : sqB M c = bq (aS M) (oN M) ρ := by unfold sqB; rw [hq]
        rw [this]
        rw [aSq_eq] at hq
        exact sqO_bd hq (by omega) (fun t ht => (hC.1.1.2.2.2 t ht).2) t ht
    generalize hM1 : sI (setR (clR M3) 5 0 0 (sN M) (fun t => nI (sqB M (tN (nI c)) t))) 0 0 11 (nI 0) = M1 at f2
    have o1 : ∀ i r k, i ≠ 5 → ¬ (i = 0 ∧ k = 11) → M1.1 i r k = (clR M3).1 i r k := fun i r k q1 q2 => by
      rw [← hM1, sI_at, if_neg (by omega), setR_if, if_neg (by omega)]
    have es : sN M1 = sN M := by rw [← hM1, FC_eq f3]; rfl
    have eB : sqB M1 (tN (nI c)) = sqB M (tN (nI c)) := by rw [← hM1, FC_eq f3]; rfl
    have e1 : ∀ k, M1.1 65 0 k = M.1 65 0 k := fun k => by rw [o1 65 0 k (by omega) (by omega), clR_fc f3 (by omega) (by omega), clR_off M (by omega) (by omega)]
    have e65 : ∀ k, M2.1 65 0 k = if k < sN M then nI (sqB M (tN (nI c)) k) else M.1 65 0 k := by
      intro k
      rw [f2.1 65 0 k rfl]
      unfold nLay
      rw [setR_if, es, eB]
      by_cases e : k < sN M
      · rw [if_pos (by omega), if_pos e]; rfl
      · rw [if_neg (by omega), if_neg e, rem65, sI_at, if_neg (by omega), e1]
    refine WI_rem (M1 := M1) h (fun i r k q1 q2 q3 => ?_) (by rw [← hM1]; exact f3.2) (by rw [← hM1]; rfl) (fun i r k q1 q2 => ?_) ?_ e2 e3 (KNm_fr (fun i r k e => ?_) (by rw [← hM1]; rfl) k3) r2 ⟨fun t ht => ?_, fun t ht => ?_, ?_⟩ (fun t ht => ⟨?_, ?_, ?_⟩) ?_ ?_
    · rw [o1 i r k (by omega) q3, clR_fc f3 q2 q3]
    · rw [f2.1 i r k q2]
      unfold nLay
      rw [setR_if, if_neg (by omega)]
      exact (ag_rem (agM0 M1)).1 i r k q2
    · rw [f2.2]
      show (remM _).2 = _
      rw [remM_2]; rfl
    · rw [P7_i] at e
      rw [o1 i r k (by omega) (by omega), clR_off M3 (by omega) (by omega)]
    · rw [e65, if_pos ht]; exact ⟨_, rfl, hb t ht⟩
    · rw [e65, if_neg (by omega)]; exact v2 t ht
    · rw [e65, if_neg (by omega)]; exact v3
    · rw [e65, if_pos ht, ← hM1, sI_at, if_neg (by omega), setR_if, if_pos (by omega)]; rfl
    · rw [e65, if_neg (by omega), o1 _ _ _ (by omega) (by omega), clR_fc f3 (by omega) (by omega), clR_off M (by omega) (by omega)]; exact (n3 t ht).2.1
    · rw [e65, if_neg (by omega), o1 _ _ _ (by omega) (by omega), clR_fc f3 (by omega) (by omega), clR_off M (by omega) (by omega)]; exact (n3 t ht).2.2
    · rw [e65, if_neg (by omega), o1 _ _ _ (by omega) (by omega), clR_fc f3 (by omega) (by omega), clR_off M (by omega) (by omega)]; exact n1
    · rw [e65, if_neg (by omega), o1 _ _ _ (by omega) (by omega), clR_fc f3 (by omega) (by omega), clR_off M (by omega) (by omega)]; exact n2
theorem k_clear (x y z : Int32) : Call2 E m_CS_clear m_Mo_clear [vI x, vI y, vI z] := by
  refine k_actS E (fun M => tClear M x y z) (fun M => vClear M x y z) (fun M M3 => sI (sI (clR M3) 4 0 3 (aClk M (tN x) (tN y) (tN z)).2.2.1) 4 0 4 (vClear M x y z)) (fun M => nClear M x y z) _ _ (by omega) (by omega) (fun n M hn h => c_clear E 0 M (WI_CI h) (WI_RVl h) (WI_RH h) n h.2.2.2.1 hn x y z) (fun M hX hA hr => r_clear E 0 M hX hA hr x y z) (fun M => ?_) (fun M M1 f => ?_) (fun M M3 f => ?_) (fun M M3 f => ?_) (fun M M3 f h => ?_) (fun M M3 f h => ?_) (fun M M3 f h => ?_) (fun n M M3 M2 hn h h0 f3 k3 f2 r2 e2 e3 => ?_)
  · unfold tClear
    cases hT M <;> cases aCk M x y z <;> simp
  · rw [FC_eq f]; rfl
  · rw [FC_eq f]; rfl
  · rw [FC_eq f]; rfl
  · rw [FC_eq f]; exact h
  · rw [FC_eq f]; exact h
  · rw [FC_eq f]; exact h
  · have hC := WI_CI h
    have h8 := hC.1.1.2.1.2
    obtain ⟨n1, n2, n3⟩ := hC.2.2.2.2.1
    obtain ⟨v1, v2, v3⟩ := h.2.1.1.1
    have hcl := (clk_ok hC.2.1 h8 (tN x) (tN y) (tN z)).1.2.1
    generalize hw : (aClk M (tN x) (tN y) (tN z)).2.2.1 = w at hcl f2
    generalize hu : vClear M x y z = u at f2
    generalize hM1 : sI (sI (sI (clR M3) 4 0 3 w) 4 0 4 u) 0 0 11 (nI 0) = M1 at f2
    have o1 : ∀ i r k, ¬ (i = 4 ∧ (k = 3 ∨ k = 4)) → ¬ (i = 0 ∧ k = 11) → M1.1 i r k = (clR M3).1 i r k := fun i r k q1 q2 => by
      rw [← hM1, sI_at, if_neg (by omega), sI_at, if_neg (by omega), sI_at, if_neg (by omega)]
    have ew : (aClk M1 (tN x) (tN y) (tN z)).2.2.1 = w := by rw [← hw, ← hM1, FC_eq f3]; rfl
    have eu : vClear M1 x y z = u := by rw [← hu, ← hM1, FC_eq f3]; rfl
    have e1 : ∀ k, M1.1 65 0 k = M.1 65 0 k := fun k => by rw [o1 65 0 k (by omega) (by omega), clR_fc f3 (by omega) (by omega), clR_off M (by omega) (by omega)]
    have e65 : ∀ k, M2.1 65 0 k = if k = 25 then u else if k = 24 then w else M.1 65 0 k := by
      intro k
      rw [f2.1 65 0 k rfl]
      unfold nClear
      rw [ew, eu, sI_at]
      by_cases e : k = 25
      · rw [if_pos ⟨rfl, rfl, e⟩, if_pos e]
      · rw [if_neg (fun z => e z.2.2), if_neg e, sI_at, rem65]
        by_cases e2 : k = 24
        · rw [if_pos ⟨rfl, rfl, e2⟩, if_pos e2]
        · rw [if_neg (fun z => e2 z.2.2), if_neg e2, sI_at, if_neg (by omega), e1]
    refine WI_rem (M1 := M1) h (fun i r k q1 q2 q3 => ?_) (by rw [← hM1]; exact f3.2) (by rw [← hM1]; rfl) (fun i r k q1 q2 => ?_) ?_ e2 e3 (KNm_fr (fun i r k e => ?_) (by rw [← hM1]; rfl) k3) r2 ⟨fun t ht => ?_, fun t ht => ?_, ?_⟩ (fun t ht => ⟨?_, ?_, ?_⟩) ?_ ?_
    · rw [o1 i r k (by omega) q3, clR_fc f3 q2 q3]
    · rw [f2.1 i r k q2]
      unfold nClear
      rw [sI_at, if_neg (by omega), sI_at, if_neg (by omega)]
      exact (ag_rem (agM0 M1)).1 i r k q2
    · rw [f2.2]
      show (remM _).2 = _
      rw [remM_2]; rfl
    · rw [P7_i] at e
      rw [o1 i r k (by omega) (by omega), clR_off M3 (by omega) (by omega)]
    · rw [e65, if_neg (by omega), if_neg (by omega)]; exact v1 t ht
    · rw [e65, if_neg (by omega), if_neg (by omega)]; exact v2 t ht
    · rw [e65, if_neg (by omega), if_pos rfl]
      exact setLt8 h8 hcl
    · rw [e65, if_neg (by omega), if_neg (by omega), o1 _ _ _ (by omega) (by omega), clR_fc f3 (by omega) (by omega), clR_off M (by omega) (by omega)]; exact (n3 t ht).1
    · rw [e65, if_neg (by omega), if_neg (by omega), o1 _ _ _ (by omega) (by omega), clR_fc f3 (by omega) (by omega), clR_off M (by omega) (by omega)]; exact (n3 t ht).2.1
    · rw [e65, if_neg (by omega), if_neg (by omega), o1 _ _ _ (by omega) (by omega), clR_fc f3 (by omega) (by omega), clR_off M (by omega) (by omega)]; exact (n3 t ht).2.2
    · rw [e65, if_neg (by omega), if_pos rfl, ← hM1, sI_at, if_neg (by omega), sI_at, if_neg (by omega), sI_at, if_pos ⟨rfl, rfl, rfl⟩]
    · rw [e65, if_pos rfl, ← hM1, sI_at, if_neg (by omega), sI_at, if_pos ⟨rfl, rfl, rfl⟩]
end K3
