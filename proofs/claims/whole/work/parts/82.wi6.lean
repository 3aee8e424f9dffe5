/-! undo, keep, back, feed -/
theorem WI_lim {M : Me} {n : Nat} (h : WI M n) : sN M ≤ 8 := h.1.1.2.1.2.1.2
section K4
variable (E : EV)
theorem k_undo : Call2 E m_CS_undo m_Mo_undo [] := by
  intro n M hn h
  have hC := WI_CI h
  have hA := WI_RA h
  have h8 := WI_lim h
  refine CallK.mk _ (by omega) (c_undo E 0 M hC (WI_RH h) hA (WI_hz h)) ?_
  rintro r M1 (⟨h0, rfl, rfl⟩ | ⟨h0, rfl, N, hN, rfl⟩)
  · refine ⟨_, rfl, CallK.mk _ (by omega) (r_undo E 0 (sI M 0 0 11 (nI (tUndo M))) hC.1 hA) ?_⟩
    have tc : tUndo (sI M 0 0 11 (nI (tUndo M))) = tUndo M := rfl
    rintro r M2 (⟨g0, rfl, rfl⟩ | ⟨g0, -⟩)
    · rw [tc]
      refine ⟨rfl, WI_q0 h hn (g4_no ?_)⟩
      unfold tUndo
      cases hT M <;> cases decide (acN M = 0) <;> simp
    · rw [tc] at g0
      exact absurd g0 h0
  · obtain ⟨d1, d2, d3, d4, d5⟩ := hN
    have o1 : ∀ i r k, ¬ (i = 4 ∧ (k = 3 ∨ k = 4)) → ¬ (5 ≤ i ∧ i ≤ 7) → ¬ (i = 8 ∧ (k = 1 ∨ k = 2)) → N.1 i r k = M.1 i r k := fun i r k q1 q2 q3 => by
      rw [d1 i r k q1 q2, sI_at, if_neg (by omega), sI_at, if_neg (by omega)]
    have o2 : N.2 = M.2 := d2
    generalize hM1 : sI N 0 0 11 (nI 0) = M1
    have p1 : ∀ i r k, ¬ (i = 4 ∧ (k = 3 ∨ k = 4)) → ¬ (5 ≤ i ∧ i ≤ 7) → ¬ (i = 8 ∧ (k = 1 ∨ k = 2)) → ¬ (i = 0 ∧ k = 11) → M1.1 i r k = M.1 i r k := fun i r k q1 q2 q3 q4 => by
      rw [← hM1, sI_at, if_neg (by omega), o1 i r k q1 q2 q3]
    have p0 : ∀ i r k, ¬ (i = 0 ∧ k = 11) → M1.1 i r k = N.1 i r k := fun i r k q => by rw [← hM1, sI_at, if_neg (by omega)]
    have p2 : M1.2 = M.2 := by rw [← hM1]; exact o2
    have hP3 : ∀ i r k, P3 i k = true → i ≠ 4 → ¬ (5 ≤ i ∧ i ≤ 7) → M1.1 i r k = M.1 i r k := fun i r k e q1 q2 => by
      rw [P3_i] at e
      exact p1 i r k (by omega) (by omega) (by omega) (by omega)
    have ea : acN M1 = acN M := by unfold acN; rw [p1 60 0 29 (by omega) (by omega) (by omega) (by omega)]
    have et : tUndo M1 = 0 := by
      rw [← h0]
      unfold tUndo hT
      rw [ea, p1 60 0 23 (by omega) (by omega) (by omega) (by omega)]
    have hX1 : RX M1 := by
      have e5 : ∀ k, M1.1 65 0 k = M.1 65 0 k := fun k => p1 65 0 k (by omega) (by omega) (by omega) (by omega)
      have e17 := p1 60 0 17 (by omega) (by omega) (by omega) (by omega)
      have e18 := p1 60 0 18 (by omega) (by omega) (by omega) (by omega)
      have e19 := p1 60 0 19 (by omega) (by omega) (by omega) (by omega)
      have e23 := p1 60 0 23 (by omega) (by omega) (by omega) (by omega)
      have eo : oN M1 = oN M := by funext s; unfold oN; rw [e5]
      have ec : cN M1 = cN M := by unfold cN; rw [e17]
      have esn : sN M1 = sN M := by unfold sN; rw [e18]
      have eb : bN M1 = bN M := by unfold bN; rw [e19]
      have eh : hT M1 = hT M := by unfold hT; rw [e23]
      refine ⟨⟨?_, ?_, ?_, ?_⟩, ?_⟩
      · rw [e17, ec]; exact hC.1.1.1
      · rw [e18, esn]; exact hC.1.1.2.1
      · rw [e19, eb]; exact hC.1.1.2.2.1
      · rw [esn, eo]
        intro s hs
        rw [e5]; exact hC.1.1.2.2.2 s hs
      · rw [e23, eh]; exact hC.1.2
    have hA1 : RA M1 := by
      unfold RA
      rw [ea, p1 60 0 29 (by omega) (by omega) (by omega) (by omega)]; exact hA
    refine ⟨_, rfl, CallK.mk _ (by omega) (r_undo E 0 M1 hX1 hA1) ?_⟩
    rintro r M2 (⟨g0, -⟩ | ⟨-, rfl, rfl⟩)
    · exact absurd et g0
    · refine ⟨by rw [ea], ?_⟩
      have ha0 : acN M ≠ 0 := by
        intro e
        unfold tUndo at h0
        rw [decide_eq_true e] at h0
        revert h0
        cases hT M <;> (intro h0; cases h0)
      obtain ⟨⟨w1, w2⟩, ⟨w3, w4, w5⟩, w6, w7, w8⟩ := h
      obtain ⟨⟨a1, a2⟩, ⟨b1', b2⟩, c1, d1'⟩ := id w4
      generalize hM2 : fin0 (nUndo M1) = M2
      have q1 : ∀ i r k, i ≠ 65 → ¬ (i = 60 ∧ (k ≤ 2 ∨ k = 29)) → M2.1 i r k = M1.1 i r k := fun i r k z1 z2 => by
        rw [← hM2]
        unfold fin0 nUndo
        rw [sI_at, if_neg (by omega), sI_at, if_neg (by omega), setR_if, if_neg (by omega), sI_at, if_neg (by omega), sI_at, if_neg (by omega)]
      have q2 : M2.2 = M.2 := by rw [← hM2]; exact p2
      have q29 : M2.1 60 0 29 = nI (acN M - 1) := by
        rw [← hM2]
        unfold fin0 nUndo
        rw [sI_at, if_neg (by omega), sI_at, if_neg (by omega), setR_if, if_neg (by omega), sI_at, if_pos ⟨rfl, rfl, rfl⟩, ea]
      have q65 : ∀ k, k < 26 → M2.1 65 0 k = M.1 67 0 (26 * (acN M - 1) + k) := fun k hk => by
        rw [← hM2]
        unfold fin0 nUndo
        rw [sI_at, if_neg (by omega), sI_at, if_neg (by omega), setR_if, if_pos (by omega), ea, p1 67 0 _ (by omega) (by omega) (by omega) (by omega)]
        rw [show (acN M - 1) * 26 + (k - 0) = 26 * (acN M - 1) + k by omega]
      have ea2 : acN M2 = acN M - 1 := by
        unfold acN
        rw [q29]
        exact nI_clamp (by omega)
      have es2 : sN M2 = sN M := by unfold sN; rw [q1 60 0 18 (by omega) (by omega), p1 60 0 18 (by omega) (by omega) (by omega) (by omega)]
      have hxb : hxB M < 10 ∧ hxB M = (hx M + 9) % 10 := by unfold hxB; split <;> omega
      have x81 : M2.1 8 0 1 = nI (hxB M) := by
        rw [q1 8 0 1 (by omega) (by omega), p0 8 0 1 (by omega), d1 8 0 1 (by omega) (by omega), sI_at, if_neg (by omega), sI_at, if_pos ⟨rfl, rfl, rfl⟩]
      have x82 : M2.1 8 0 2 = nI (acN M - 1) := by
        rw [q1 8 0 2 (by omega) (by omega), p0 8 0 2 (by omega), d1 8 0 2 (by omega) (by omega), sI_at, if_pos ⟨rfl, rfl, rfl⟩]
        have : hz M = acN M := by unfold hz acN tN; rw [c1]
        rw [this]
      have ex2 : hx M2 = hxB M := by
        unfold hx
        rw [x81]
        exact tN_nI (by omega)
      have top := d1' (acN M - 1) (by omega)
      rw [show (hx M + (10 - acN M) + (acN M - 1)) % 10 = hxB M by omega] at top
      have x10 : ∀ r k, (sI (sI M 8 0 1 (nI (hxB M))) 8 0 2 (nI (hz M - 1))).1 10 r k = M.1 10 r k := fun r k => by
        rw [sI_at, if_neg (by omega), sI_at, if_neg (by omega)]
      refine ⟨⟨W1_fr (fun i r k e => ?_) q2 w1, W2_fr (fun i r k e => ?_) q2 w2⟩, ⟨?_, ⟨⟨by rw [ea2]; exact q29, by omega⟩, ⟨by rw [ex2]; exact x81, by rw [ex2]; exact hxb.1⟩, by rw [x82, q29], fun j hj => ?_⟩, W5_fr (fun i r k e => ?_) q2 w5⟩, ⟨?_, ?_, ?_⟩, KNm_up (KNm_fr (fun i r k e => ?_) q2 w7) hn, RRe_o w8 ?_⟩
      · rw [P1_i] at e
        rw [q1 i r k (by omega) (by omega), p1 i r k (by omega) (by omega) (by omega) (by omega)]
      · rw [P2_i] at e
        rw [q1 i r k (by omega) (by omega), p1 i r k (by omega) (by omega) (by omega) (by omega)]
      · unfold W3
        rw [es2]
        refine ImR_cg h8 q65 (fun k hk => ?_) top
        have gN : ∀ i k, i = 4 ∨ i = 5 ∨ i = 6 ∨ i = 7 → M2.1 i 0 k = N.1 i 0 k := fun i k hi => by rw [q1 i 0 k (by omega) (by omega), p0 i 0 k (by omega)]
        unfold snp
        rw [gN 5 _ (by omega), gN 6 _ (by omega), gN 7 _ (by omega), gN 4 3 (by omega), gN 4 4 (by omega)]
        by_cases c24 : k < 24
        · rw [if_pos c24]
          obtain ⟨z1, z2, z3⟩ := d5 (k / 3) (by omega)
          rw [z1, z2, z3, x10, x10, x10]
          by_cases m0 : k % 3 = 0
          · rw [if_pos m0, show 3 * (k / 3) = k by omega]
          · rw [if_neg m0]
            by_cases m1 : k % 3 = 1
            · rw [if_pos m1, show 3 * (k / 3) + 1 = k by omega]
            · rw [if_neg m1, show 3 * (k / 3) + 2 = k by omega]
        · rw [if_neg c24]
          by_cases c25 : k = 24
          · rw [if_pos c25, d3, x10, c25]
          · rw [if_neg c25, d4, x10, show k = 25 by omega]
      · rw [ea2] at hj
        rw [es2, ea2, ex2]
        refine ImR_cg h8 (fun k hk => ?_) (fun k hk => ?_) (d1' j (by omega))
        · rw [q1 67 0 _ (by omega) (by omega), p1 67 0 _ (by omega) (by omega) (by omega) (by omega)]
        · rw [show (hxB M + (10 - (acN M - 1)) + j) % 10 = (hx M + (10 - acN M) + j) % 10 by omega, q1 10 _ _ (by omega) (by omega), p1 10 _ _ (by omega) (by omega) (by omega) (by omega)]
      · rw [P5_i] at e
        rw [q1 i r k (by omega) (by omega), p1 i r k (by omega) (by omega) (by omega) (by omega)]
      · rw [q1 0 0 11 (by omega) (by omega), ← hM1, ← hM2]; rfl
      · rw [q1 0 0 12 (by omega) (by omega), p1 0 0 12 (by omega) (by omega) (by omega) (by omega), q1 60 0 7 (by omega) (by omega), p1 60 0 7 (by omega) (by omega) (by omega) (by omega)]
        exact w6.2.1
      · have : M2.1 0 0 11 = nI 0 := by rw [q1 0 0 11 (by omega) (by omega), ← hM1]; rfl
        rw [this, if_neg (by decide), ← hM2]; rfl
      · rw [P7_i] at e
        rw [q1 i r k (by omega) (by omega), p1 i r k (by omega) (by omega) (by omega) (by omega)]
      · funext r k
        rw [q1 70 r k (by omega) (by omega), p1 70 r k (by omega) (by omega) (by omega) (by omega)]
theorem k_keep (x : Int32) : Call2 E m_CS_keep m_Mo_keep [vI x] := by
  intro n M hn h
  have hC := WI_CI h
  have h8 := WI_lim h
  refine CallK.mk _ (by omega) (c_keep E 0 M hC x) ?_
  rintro r M1 (⟨h0, rfl, rfl⟩ | ⟨h0, rfl, rfl⟩)
  · refine ⟨_, rfl, CallK.mk _ (by omega) (r_keep E 0 (sI M 0 0 11 (nI 1)) hC.1 x) ?_⟩
    have tc : tKeep (sI M 0 0 11 (nI 1)) x = tKeep M x := rfl
    rintro r M2 (⟨g0, rfl, rfl⟩ | ⟨g0, -⟩)
    · have t1 : tKeep M x = 1 := by
        unfold tKeep at h0 ⊢
        cases hc : (hT M && in3 x 1) with
        | true => rw [hc] at h0; exact absurd rfl h0
        | false => rfl
      rw [tc, t1]
      exact ⟨rfl, WI_q0 (t := nI 1) h hn (by decide)⟩
    · rw [tc] at g0
      exact absurd g0 h0
  · have hx1 : in3 x 1 = true := by
      unfold tKeep at h0
      cases hc : in3 x 1 with
      | true => rfl
      | false => rw [hc, Bool.and_false] at h0; cases h0
    obtain ⟨j, hj, rfl⟩ := in3_at (by omega) hx1
    have ej : tN (nI j) = j := tN_nI (by omega)
    rw [ej]
    refine ⟨_, rfl, CallK.mk _ (by omega) (r_keep E 0 (sI (sI (setR M 12 j 0 26 (snp M)) 13 0 j (nI 1)) 0 0 11 (nI 0)) hC.1 (nI j)) ?_⟩
    have tc : tKeep (sI (sI (setR M 12 j 0 26 (snp M)) 13 0 j (nI 1)) 0 0 11 (nI 0)) (nI j) = tKeep M (nI j) := rfl
    rintro r M2 (⟨g0, -⟩ | ⟨-, rfl, rfl⟩)
    · rw [tc] at g0
      exact absurd h0 g0
    · refine ⟨rfl, ?_⟩
      obtain ⟨⟨w1, w2⟩, ⟨w3, w4, w5⟩, w6, w7, w8⟩ := h
      generalize hM2 : finG (nKeep (sI (sI (setR M 12 j 0 26 (snp M)) 13 0 j (nI 1)) 0 0 11 (nI 0)) (nI j)) 0 = M2
      have q1 : ∀ i r k, i ≠ 12 → ¬ (i = 13 ∧ k = j) → ¬ (i = 0 ∧ k = 11) → i ≠ 68 → ¬ (i = 69 ∧ k = j) → ¬ (i = 60 ∧ k ≤ 2) → M2.1 i r k = M.1 i r k := fun i r k z1 z2 z3 z4 z5 z6 => by
        rw [← hM2]
        unfold finG nKeep
        rw [ej, sI_at, if_neg (by omega), sI_at, if_neg (by omega), sI_at, if_neg (by omega), setR_if, if_neg (by omega), sI_at, if_neg (by omega), sI_at, if_neg (by omega), sI_at, if_neg (by omega), setR_if, if_neg (by omega)]
      have q2 : M2.2 = M.2 := by rw [← hM2]; rfl
      have q12 : ∀ r k, M2.1 12 r k = if r = j ∧ k < 26 then snp M k else M.1 12 r k := fun r k => by
        rw [← hM2]
        unfold finG nKeep
        rw [sI_at, if_neg (by omega), sI_at, if_neg (by omega), sI_at, if_neg (by omega), setR_if, if_neg (by omega), sI_at, if_neg (by omega), sI_at, if_neg (by omega), sI_at, if_neg (by omega), setR_if]
        by_cases e : r = j ∧ k < 26
        · rw [if_pos (by omega), if_pos e]; rfl
        · rw [if_neg (by omega), if_neg e]
      have q68 : ∀ k, M2.1 68 0 k = if 26 * j ≤ k ∧ k < 26 * j + 26 then M.1 65 0 (k - 26 * j) else M.1 68 0 k := fun k => by
        rw [← hM2]
        unfold finG nKeep
        rw [ej, sI_at, if_neg (by omega), sI_at, if_neg (by omega), sI_at, if_neg (by omega), setR_if]
        by_cases e : 26 * j ≤ k ∧ k < 26 * j + 26
        · rw [if_pos (by omega), if_pos e]; rfl
        · rw [if_neg (by omega), if_neg e]; rfl
      have q13 : ∀ i, M2.1 13 0 i = if i = j then nI 1 else M.1 13 0 i := fun i => by
        rw [← hM2]
        unfold finG nKeep
        rw [sI_at, if_neg (by omega), sI_at, if_neg (by omega), sI_at, if_neg (by omega), setR_if, if_neg (by omega), sI_at, if_neg (by omega), sI_at, if_neg (by omega), sI_at]
        by_cases e : i = j
        · rw [if_pos ⟨rfl, rfl, e⟩, if_pos e]
        · rw [if_neg (fun z => e z.2.2), if_neg e]; rfl
      have q69 : ∀ i, M2.1 69 0 i = if i = j then nI 1 else M.1 69 0 i := fun i => by
        rw [← hM2]
        unfold finG nKeep
        rw [ej, sI_at, if_neg (by omega), sI_at, if_neg (by omega), sI_at]
        by_cases e : i = j
        · rw [if_pos ⟨rfl, rfl, e⟩, if_pos e]
        · rw [if_neg (fun z => e z.2.2), if_neg e]; rfl
      have es2 : sN M2 = sN M := by unfold sN; rw [q1 60 0 18 (by omega) (by omega) (by omega) (by omega) (by omega) (by omega)]
      refine ⟨⟨W1_fr (fun i r k e => ?_) q2 w1, W2_fr (fun i r k e => ?_) q2 w2⟩, ⟨W3_fr (fun i r k e => ?_) q2 w3, W4_fr (fun i r k e => ?_) q2 w4, fun i hi => ?_⟩, ⟨?_, ?_, ?_⟩, KNm_up (KNm_fr (fun i r k e => ?_) q2 w7) hn, RRe_o w8 ?_⟩
      · rw [P1_i] at e
        exact q1 i r k (by omega) (by omega) (by omega) (by omega) (by omega) (by omega)
      · rw [P2_i] at e
        exact q1 i r k (by omega) (by omega) (by omega) (by omega) (by omega) (by omega)
      · rw [P3_i] at e
        exact q1 i r k (by omega) (by omega) (by omega) (by omega) (by omega) (by omega)
      · rw [P4_i] at e
        exact q1 i r k (by omega) (by omega) (by omega) (by omega) (by omega) (by omega)
      · rw [es2]
        by_cases e : i = j
        · have ek : kp M2 i = true := by
            unfold kp
            rw [q69, if_pos e]; decide
          rw [ek, q13, q69, if_pos e, if_pos e]
          refine ⟨⟨rfl, rfl⟩, fun _ => ImR_cg h8 (fun k hk => ?_) (fun k hk => ?_) w3⟩
          · rw [q68, if_pos (by omega), e, show 26 * j + k - 26 * j = k by omega]
          · rw [q12, if_pos ⟨e, hk⟩]
        · have ek : kp M2 i = kp M i := by
            unfold kp
            rw [q69, if_neg e]
          rw [ek, q13, q69, if_neg e, if_neg e]
          refine ⟨(w5 i hi).1, fun z => ImR_cg h8 (fun k hk => ?_) (fun k hk => ?_) ((w5 i hi).2 z)⟩
          · rw [q68, if_neg (by omega)]
          · rw [q12, if_neg (fun z => e z.1)]
      · rw [← hM2]; rfl
      · rw [q1 0 0 12 (by omega) (by omega) (by omega) (by omega) (by omega) (by omega), q1 60 0 7 (by omega) (by omega) (by omega) (by omega) (by omega) (by omega)]
        exact w6.2.1
      · have : M2.1 0 0 11 = nI 0 := by rw [← hM2]; rfl
        rw [this, if_neg (by decide), ← hM2]; rfl
      · rw [P7_i] at e
        exact q1 i r k (by omega) (by omega) (by omega) (by omega) (by omega) (by omega)
      · funext r k
        exact q1 70 r k (by omega) (by omega) (by omega) (by omega) (by omega) (by omega)
end K4
