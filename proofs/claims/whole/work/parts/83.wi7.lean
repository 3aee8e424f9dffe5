/-! back, feed -/
theorem RX_fr {M M1 : Me} (h : RX M) (h5 : ∀ k, M1.1 65 0 k = M.1 65 0 k) (e17 : M1.1 60 0 17 = M.1 60 0 17) (e18 : M1.1 60 0 18 = M.1 60 0 18) (e19 : M1.1 60 0 19 = M.1 60 0 19) (e23 : M1.1 60 0 23 = M.1 60 0 23) : RX M1 := by
  have eo : oN M1 = oN M := by funext s; unfold oN; rw [h5]
  have ec : cN M1 = cN M := by unfold cN; rw [e17]
  have esn : sN M1 = sN M := by unfold sN; rw [e18]
  have eb : bN M1 = bN M := by unfold bN; rw [e19]
  have eh : hT M1 = hT M := by unfold hT; rw [e23]
  refine ⟨⟨?_, ?_, ?_, ?_⟩, ?_⟩
  · rw [e17, ec]; exact h.1.1
  · rw [e18, esn]; exact h.1.2.1
  · rw [e19, eb]; exact h.1.2.2.1
  · rw [esn, eo]
    intro s hs
    rw [h5]; exact h.1.2.2.2 s hs
  · rw [e23, eh]; exact h.2
theorem sm255 (x : Int32) : ∃ k, k < 256 ∧ x &&& nI 255 = nI k := by
  refine isSm_of fun i h1 h2 => ?_
  rw [b_and, b_255 h2, decide_eq_false (by omega), Bool.and_false]
section K5
variable (E : EV)
theorem k_back (x : Int32) : Call2 E m_CS_back m_Mo_back [vI x] := by
  intro n M hn h
  have hC := WI_CI h
  have h8 := WI_lim h
  have hK := WI_RK h
  refine CallK.mk _ (by omega) (c_back E 0 M hC (fun i hi => (h.2.1.2.2 i hi).1.1) x) ?_
  rintro r M1 (⟨h0, rfl, rfl⟩ | ⟨h0, rfl, N, ⟨d1, d2, d3, d4, d5⟩, rfl⟩)
  · refine ⟨_, rfl, CallK.mk _ (by omega) (r_back E 0 (sI M 0 0 11 (nI 1)) hC.1 hK x) ?_⟩
    have tc : tBack (sI M 0 0 11 (nI 1)) x = tBack M x := rfl
    rintro r M2 (⟨g0, rfl, rfl⟩ | ⟨g0, -⟩)
    · have t1 : tBack M x = 1 := by
        unfold tBack at h0 ⊢
        cases hc : ((hT M && in3 x 1) && kp M (tN x)) with
        | true => rw [hc] at h0; exact absurd rfl h0
        | false => rfl
      rw [tc, t1]
      exact ⟨rfl, WI_q0 (t := nI 1) h hn (by decide)⟩
    · rw [tc] at g0
      exact absurd g0 h0
  · have hx0 : ((hT M && in3 x 1) && kp M (tN x)) = true := by
      unfold tBack at h0
      cases hc : ((hT M && in3 x 1) && kp M (tN x)) with
      | true => rfl
      | false => rw [hc] at h0; cases h0
    have hx2 := hx0
    rw [Bool.and_eq_true, Bool.and_eq_true] at hx2
    obtain ⟨⟨-, hx1⟩, hkp⟩ := hx2
    obtain ⟨j, hj, rfl⟩ := in3_at (by omega) hx1
    have ej : tN (nI j) = j := tN_nI (by omega)
    rw [ej] at hkp d3 d4 d5
    generalize hM1 : sI (sI N 8 0 2 (nI 0)) 0 0 11 (nI 0) = M1
    have p1 : ∀ i r k, ¬ (i = 4 ∧ (k = 3 ∨ k = 4)) → ¬ (5 ≤ i ∧ i ≤ 7) → ¬ (i = 8 ∧ k = 2) → ¬ (i = 0 ∧ k = 11) → M1.1 i r k = M.1 i r k := fun i r k q1 q2 q3 q4 => by
      rw [← hM1, sI_at, if_neg (by omega), sI_at, if_neg (by omega), d1 i r k q1 q2]
    have p0 : ∀ i r k, ¬ (i = 0 ∧ k = 11) → ¬ (i = 8 ∧ k = 2) → M1.1 i r k = N.1 i r k := fun i r k q q2 => by rw [← hM1, sI_at, if_neg (by omega), sI_at, if_neg (by omega)]
    have p2 : M1.2 = M.2 := by rw [← hM1]; exact d2
    have hX1 : RX M1 := RX_fr hC.1 (fun k => p1 65 0 k (by omega) (by omega) (by omega) (by omega)) (p1 60 0 17 (by omega) (by omega) (by omega) (by omega)) (p1 60 0 18 (by omega) (by omega) (by omega) (by omega)) (p1 60 0 19 (by omega) (by omega) (by omega) (by omega)) (p1 60 0 23 (by omega) (by omega) (by omega) (by omega))
    have ekp : ∀ i, kp M1 i = kp M i := fun i => by unfold kp; rw [p1 69 0 i (by omega) (by omega) (by omega) (by omega)]
    have hK1 : RK M1 := fun i hi => by rw [ekp, p1 69 0 i (by omega) (by omega) (by omega) (by omega)]; exact hK i hi
    have et : tBack M1 (nI j) = 0 := by
      rw [← h0]
      unfold tBack hT
      rw [ekp, p1 60 0 23 (by omega) (by omega) (by omega) (by omega)]
    refine ⟨_, rfl, CallK.mk _ (by omega) (r_back E 0 M1 hX1 hK1 (nI j)) ?_⟩
    rintro r M2 (⟨g0, -⟩ | ⟨-, rfl, rfl⟩)
    · exact absurd et g0
    · refine ⟨rfl, ?_⟩
      obtain ⟨⟨w1, w2⟩, ⟨w3, w4, w5⟩, w6, w7, w8⟩ := h
      generalize hM2 : finG (nBack M1 (nI j)) 0 = M2
      have q1 : ∀ i r k, i ≠ 65 → ¬ (i = 60 ∧ (k ≤ 2 ∨ k = 29)) → M2.1 i r k = M1.1 i r k := fun i r k z1 z2 => by
        rw [← hM2]
        unfold finG nBack
        rw [sI_at, if_neg (by omega), sI_at, if_neg (by omega), sI_at, if_neg (by omega), setR_if, if_neg (by omega), sI_at, if_neg (by omega)]
      have q2 : M2.2 = M.2 := by rw [← hM2]; exact p2
      have q29 : M2.1 60 0 29 = nI 0 := by
        rw [← hM2]
        unfold finG nBack
        rw [sI_at, if_neg (by omega), sI_at, if_neg (by omega), sI_at, if_pos ⟨rfl, rfl, rfl⟩]
      have q65 : ∀ k, k < 26 → M2.1 65 0 k = M.1 68 0 (26 * j + k) := fun k hk => by
        rw [← hM2]
        unfold finG nBack
        rw [sI_at, if_neg (by omega), sI_at, if_neg (by omega), sI_at, if_neg (by omega), setR_if, if_pos (by omega), ej, p1 68 0 _ (by omega) (by omega) (by omega) (by omega), Nat.sub_zero]
      have ea2 : acN M2 = 0 := by
        unfold acN
        rw [q29]
        exact nI_clamp (by omega)
      have es2 : sN M2 = sN M := by unfold sN; rw [q1 60 0 18 (by omega) (by omega), p1 60 0 18 (by omega) (by omega) (by omega) (by omega)]
      have x81 : M2.1 8 0 1 = M.1 8 0 1 := by rw [q1 8 0 1 (by omega) (by omega), p1 8 0 1 (by omega) (by omega) (by omega) (by omega)]
      have ex2 : hx M2 = hx M := by unfold hx; rw [x81]
      have x82 : M2.1 8 0 2 = nI 0 := by rw [q1 8 0 2 (by omega) (by omega), ← hM1]; rfl
      refine ⟨⟨W1_fr (fun i r k e => ?_) q2 w1, W2_fr (fun i r k e => ?_) q2 w2⟩, ⟨?_, ⟨⟨by rw [ea2]; exact q29, by omega⟩, by rw [ex2, x81]; exact w4.2.1, by rw [x82, q29], fun i hi => absurd hi (by omega)⟩, W5_fr (fun i r k e => ?_) q2 w5⟩, ⟨?_, ?_, ?_⟩, KNm_up (KNm_fr (fun i r k e => ?_) q2 w7) hn, RRe_o w8 ?_⟩
      · rw [P1_i] at e
        rw [q1 i r k (by omega) (by omega), p1 i r k (by omega) (by omega) (by omega) (by omega)]
      · rw [P2_i] at e
        rw [q1 i r k (by omega) (by omega), p1 i r k (by omega) (by omega) (by omega) (by omega)]
      · unfold W3
        rw [es2]
        refine ImR_cg h8 q65 (fun k hk => ?_) ((w5 j (by omega)).2 hkp)
        have gN : ∀ i k, i = 4 ∨ i = 5 ∨ i = 6 ∨ i = 7 → M2.1 i 0 k = N.1 i 0 k := fun i k hi => by rw [q1 i 0 k (by omega) (by omega), p0 i 0 k (by omega) (by omega)]
        unfold snp
        rw [gN 5 _ (by omega), gN 6 _ (by omega), gN 7 _ (by omega), gN 4 3 (by omega), gN 4 4 (by omega)]
        by_cases c24 : k < 24
        · rw [if_pos c24]
          obtain ⟨z1, z2, z3⟩ := d5 (k / 3) (by omega)
          rw [z1, z2, z3]
          by_cases m0 : k % 3 = 0
          · rw [if_pos m0, show 3 * (k / 3) = k by omega]
          · rw [if_neg m0]
            by_cases m1 : k % 3 = 1
            · rw [if_pos m1, show 3 * (k / 3) + 1 = k by omega]
            · rw [if_neg m1, show 3 * (k / 3) + 2 = k by omega]
        · rw [if_neg c24]
          by_cases c25 : k = 24
          · rw [if_pos c25, d3, c25]
          · rw [if_neg c25, d4, show k = 25 by omega]
      · rw [P5_i] at e
        rw [q1 i r k (by omega) (by omega), p1 i r k (by omega) (by omega) (by omega) (by omega)]
      · rw [q1 0 0 11 (by omega) (by omega), ← hM1, ← hM2]; rfl
      · rw [q1 0 0 12 (by omega) (by omega), p1 0 0 12 (by omega) (by omega) (by omega) (by omega), q1 60 0 7 (by omega) (by omega), p1 60 0 7 (by omega) (by omega) (by omega) (by omega)]
        exact w6.2.1
      · have : M2.1 0 0 11 = nI 0 := by rw [q1 0 0 11 (by omega) (by omega), ← hM1]; rfl
        rw [this, if_neg (by decide), ← hM2]; rfl
      · rw [P7_i] at e
        rw [q1 i r k (by omega) (by omega), p1 i r k (by omega) (by omega) (by omega) (by omega)]
      · funext r k
        rw [q1 70 r k (by omega) (by omega), p1 70 r k (by omega) (by omega) (by omega) (by omega)]
theorem k_feed (a b c v f : Int32) : Call2 E m_CS_feed m_Mo_feed [vI a, vI b, vI c, vI v, vI f] := by
  intro n M hn h
  obtain ⟨l, l1, l2, l3, l4, l5⟩ := id h.1.2
  have hTp := WI_RTp h
  have etp : tpN M = l := by
    unfold tpN
    rw [l3]; exact tN_nI (by omega)
  refine CallK.mk _ (by omega) (c_feed E 0 M l l2 l1 a b c v f) ?_
  rintro r M1 (⟨h0, rfl, rfl⟩ | ⟨h0, rfl, d1, d2, d3, d4⟩)
  · refine ⟨_, rfl, CallK.mk _ (by omega) (r_feed E 0 M1 hTp a b c v f) ?_⟩
    rintro r M2 (⟨-, rfl, rfl⟩ | ⟨g0, -⟩)
    · exact ⟨rfl, WI_0 h hn⟩
    · omega
  · have etp1 : tpN M1 = l := by
      unfold tpN
      rw [d1 60 0 4 (by omega) (by omega), l3]; exact tN_nI (by omega)
    have hTp1 : RTp M1 := by
      unfold RTp
      rw [etp1, d1 60 0 4 (by omega) (by omega)]
      exact ⟨l3, l1⟩
    refine ⟨_, rfl, CallK.mk _ (by omega) (r_feed E 0 M1 hTp1 a b c v f) ?_⟩
    rintro r M2 (⟨g0, -⟩ | ⟨-, rfl, rfl⟩)
    · omega
    · refine ⟨by rw [etp1], ?_⟩
      obtain ⟨⟨w1, w2⟩, ⟨w3, w4, w5⟩, w6, w7, w8⟩ := h
      generalize hM2 : nFeed M1 a b c v f = M2
      have q1 : ∀ i r k, i ≠ 61 → ¬ (i = 60 ∧ (k = 0 ∨ k = 4)) → M2.1 i r k = M1.1 i r k := fun i r k z1 z2 => by
        rw [← hM2]
        unfold nFeed
        rw [sI_at, if_neg (by omega), setR_if, if_neg (by omega), sI_at, if_neg (by omega)]
      have q2 : M2.2 = M.2 := by rw [← hM2]; exact d2
      have q61 : ∀ k, M2.1 61 0 k = if l ≤ k ∧ k < l + 20 then fdB a b c v f (k - l) else M.1 61 0 k := fun k => by
        rw [← hM2]
        unfold nFeed
        rw [etp1, sI_at, if_neg (by omega), setR_if]
        by_cases e : l ≤ k ∧ k < l + 20
        · rw [if_pos (by omega), if_pos e]
        · rw [if_neg (by omega), if_neg e, sI_at, if_neg (by omega), d1 61 0 k (by omega) (by omega)]
      have q : ∀ i r k, i ≠ 61 → ¬ (i = 60 ∧ (k = 0 ∨ k = 4)) → ¬ (i = 1 ∧ k = 1) → i ≠ 2 → M2.1 i r k = M.1 i r k := fun i r k z1 z2 z3 z4 => by rw [q1 i r k z1 z2, d1 i r k z3 (by omega)]
      refine ⟨⟨W1_fr (fun i r k e => ?_) q2 w1, ⟨l + 20, by omega, ?_, ?_, fun k hk => ?_, fun k hk => ?_⟩⟩, ⟨W3_fr (fun i r k e => ?_) q2 w3, W4_fr (fun i r k e => ?_) q2 w4, W5_fr (fun i r k e => ?_) q2 w5⟩, ⟨?_, ?_, ?_⟩, KNm_up (KNm_fr (fun i r k e => ?_) q2 w7) hn, RRe_o w8 ?_⟩
      · rw [P1_i] at e
        exact q i r k (by omega) (by omega) (by omega) (by omega)
      · rw [q1 1 0 1 (by omega) (by omega)]; exact d3
      · rw [← hM2]
        unfold nFeed
        rw [etp1, sI_at, if_pos ⟨rfl, rfl, rfl⟩]
      · rw [q1 2 0 k (by omega) (by omega), q61]
        by_cases e : l ≤ k
        · rw [if_pos (by omega)]
          have := d4 (k - l) (by omega)
          rw [show l + (k - l) = k by omega] at this
          exact this
        · rw [if_neg (by omega), d1 2 0 k (by omega) (by omega)]
          exact l4 k (by omega)
      · rw [q61]
        by_cases e : l ≤ k ∧ k < l + 20
        · rw [if_pos e]
          unfold fdB by4
          obtain ⟨m, m1, m2⟩ := sm255 (fdS a b c v f (k - l) >>> (nI (24 - 8 * ((k - l) % 4)) &&& 31))
          rw [m2, tN_nI (by omega)]
          exact ⟨rfl, m1⟩
        · rw [if_neg e]; exact l5 k hk
      · rw [P3_i] at e
        exact q i r k (by omega) (by omega) (by omega) (by omega)
      · rw [P4_i] at e
        exact q i r k (by omega) (by omega) (by omega) (by omega)
      · rw [P5_i] at e
        exact q i r k (by omega) (by omega) (by omega) (by omega)
      · rw [q 0 0 11 (by omega) (by omega) (by omega) (by omega), q 60 0 1 (by omega) (by omega) (by omega) (by omega)]; exact w6.1
      · rw [q 0 0 12 (by omega) (by omega) (by omega) (by omega), q 60 0 7 (by omega) (by omega) (by omega) (by omega)]; exact w6.2.1
      · rw [q 0 0 11 (by omega) (by omega) (by omega) (by omega), q 60 0 2 (by omega) (by omega) (by omega) (by omega), q 0 0 13 (by omega) (by omega) (by omega) (by omega)]; exact w6.2.2
      · rw [P7_i] at e
        exact q i r k (by omega) (by omega) (by omega) (by omega)
      · funext r k
        exact q 70 r k (by omega) (by omega) (by omega) (by omega)
end K5
