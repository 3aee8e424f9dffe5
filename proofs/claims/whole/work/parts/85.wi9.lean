/-! a text: class and reference answer alike -/
theorem WI_txNo {M M1 B' : Me} {n n' : Nat} {ql : FL} {f : Nat → Int32} {g : Int64} (h : WI M n) (hn : n + 1 < 2000) (hN : TxNo M ql M1) (hF : Fr (txM M1 n') B') (h7 : f 7 = nI ql.1) : WI (sI (sI (mT B' f g) 60 0 1 (nI 4)) 60 0 2 (nI ql.2)) (n + 1) := by
  obtain ⟨⟨w1, w2⟩, ⟨w3, w4, w5⟩, w6, w7, w8⟩ := h
  obtain ⟨x2, x1, x3, x4, x5, x6⟩ := hN
  have hpq := w1.1.1
  generalize hM2 : sI (sI (mT B' f g) 60 0 1 (nI 4)) 60 0 2 (nI ql.2) = M2
  have q1 : ∀ i r k, ¬ (i = 60 ∧ (k ≤ 2 ∨ (4 ≤ k ∧ k ≤ 12) ∨ (20 ≤ k ∧ k ≤ 22))) → ¬ (i = 62 ∧ 36 ≤ k) → ¬ (i = 63 ∧ 4 ≤ k) → i ≠ 66 → M2.1 i r k = M1.1 i r k := fun i r k z1 z2 z3 z4 => by
    rw [← hM2, sI_at, if_neg (by omega), sI_at, if_neg (by omega), mT_o (by omega), hF.1 i r k (by unfold PZ; omega), txM_o M1 n' (by omega) z4]
  have q : ∀ i r k, ¬ (i = 60 ∧ (k ≤ 2 ∨ (4 ≤ k ∧ k ≤ 12) ∨ (20 ≤ k ∧ k ≤ 22))) → ¬ (i = 62 ∧ 36 ≤ k) → ¬ (i = 63 ∧ 4 ≤ k) → i ≠ 66 → i ≠ 3 → ¬ (i = 1 ∧ k = 1) → ¬ (i = 0 ∧ 11 ≤ k ∧ k ≤ 13) → ¬ PZc (M.2.2 0 0 10) i r k → M2.1 i r k = M.1 i r k := fun i r k z1 z2 z3 z4 z5 z6 z7 z8 => by
    rw [q1 i r k z1 z2 z3 z4, x1 i r k z5 z6 z7 z8]
  have q22 : M2.2.2 = M.2.2 := by
    rw [← hM2]
    show B'.2.2 = _
    rw [hF.2.2, ← x2]; rfl
  have q64 : ∀ k, k < 8 → M2.2.1 64 0 k = M.2.1 64 0 k := fun k hk => by
    rw [← hM2]
    show B'.2.1 64 0 k = _
    rw [hF.2.1 64 0 k (by omega), ← x2]; rfl
  have e7 : M2.1 60 0 7 = nI ql.1 := by rw [← hM2]; exact h7
  have e4 : M2.1 60 0 4 = nI 0 := by
    rw [← hM2]
    show B'.1 60 0 4 = _
    rw [hF.1 60 0 4 (by unfold PZ; omega)]; rfl
  have lo : ∀ i r k, i < 30 → i ≠ 3 → ¬ (i = 1 ∧ k = 1) → ¬ (i = 0 ∧ 11 ≤ k ∧ k ≤ 13) → M2.1 i r k = M.1 i r k := fun i r k z1 z2 z3 z4 => q i r k (by omega) (by omega) (by omega) (by omega) z2 z3 z4 (by unfold PZc; omega)
  have hi : ∀ i r k, 60 ≤ i → ¬ (i = 60 ∧ (k ≤ 2 ∨ (4 ≤ k ∧ k ≤ 12) ∨ (20 ≤ k ∧ k ≤ 22))) → ¬ (i = 62 ∧ 36 ≤ k) → ¬ (i = 63 ∧ 4 ≤ k) → i ≠ 66 → M2.1 i r k = M.1 i r k := fun i r k z0 z1 z2 z3 z4 => q i r k z1 z2 z3 z4 (by omega) (by omega) (by omega) (by unfold PZc; omega)
  have hpq' : M.2.2 0 0 9 ≠ M.2.2 0 0 10 := hpq
  refine ⟨⟨W1_fr2 (by rw [q22]) (by rw [q22]) (q _ _ _ (by omega) (by omega) (by omega) (by omega) (by omega) (by omega) (by omega) (by unfold PZc; omega)) (q _ _ _ (by omega) (by omega) (by omega) (by omega) (by omega) (by omega) (by omega) (by unfold PZc; omega)) (fun k hk => hi 60 0 k (by omega) (by omega) (by omega) (by omega) (by omega)) (fun i k z1 z2 z3 => q _ _ _ (by omega) (by omega) (by omega) (by omega) (by omega) (by omega) (by omega) (by unfold PZc; omega)) (fun r k z1 z2 => q _ _ _ (by omega) (by omega) (by omega) (by omega) (by omega) (by omega) (by omega) (by unfold PZc; omega)) (fun k hk => hi 62 0 k (by omega) (by omega) (by omega) (by omega) (by omega)) (fun k hk => hi 63 0 k (by omega) (by omega) (by omega) (by omega) (by omega)) q64 w1, ⟨0, by omega, ?_, e4, fun k hk => absurd hk (Nat.not_lt_zero k), fun k hk => ?_⟩⟩, ⟨W3_fr (B := (M.1, M2.2)) (fun i r k e => ?_) rfl w3, W4_fr (B := (M.1, M2.2)) (fun i r k e => ?_) rfl w4, W5_fr (B := (M.1, M2.2)) (fun i r k e => ?_) rfl w5⟩, ⟨?_, ?_, ?_⟩, KNm_up (KNm_fr (B := (M.1, M2.2)) (fun i r k e => ?_) rfl w7) hn, RRe_o w8 ?_⟩
  · rw [q1 1 0 1 (by omega) (by omega) (by omega) (by omega)]; exact x3
  · rw [hi 61 0 k (by omega) (by omega) (by omega) (by omega) (by omega)]
    exact w2.choose_spec.2.2.2.2 k hk
  · rw [P3_i] at e
    rcases e with (e | e) | e | e
    · exact hi i r k (by omega) (by omega) (by omega) (by omega) (by omega)
    · exact lo i r k (by omega) (by omega) (by omega) (by omega)
    · exact lo i r k (by omega) (by omega) (by omega) (by omega)
    · exact hi i r k (by omega) (by omega) (by omega) (by omega) (by omega)
  · rw [P4_i] at e
    rcases e with (e | e) | e | e
    · exact lo i r k (by omega) (by omega) (by omega) (by omega)
    · exact hi i r k (by omega) (by omega) (by omega) (by omega) (by omega)
    · exact lo i r k (by omega) (by omega) (by omega) (by omega)
    · exact hi i r k (by omega) (by omega) (by omega) (by omega) (by omega)
  · rw [P5_i] at e
    rcases e with (e | e) | e
    · exact lo i r k (by omega) (by omega) (by omega) (by omega)
    · exact hi i r k (by omega) (by omega) (by omega) (by omega) (by omega)
    · exact hi i r k (by omega) (by omega) (by omega) (by omega) (by omega)
  · rw [q1 0 0 11 (by omega) (by omega) (by omega) (by omega), x4, ← hM2]; rfl
  · rw [q1 0 0 12 (by omega) (by omega) (by omega) (by omega), x5, e7]
  · rw [q1 0 0 11 (by omega) (by omega) (by omega) (by omega), x4, if_pos rfl, q1 0 0 13 (by omega) (by omega) (by omega) (by omega), x6, ← hM2]; rfl
  · rw [P7_i] at e
    exact lo i r k (by omega) (by omega) (by omega) (by omega)
  · funext r k
    exact hi 70 r k (by omega) (by omega) (by omega) (by omega) (by omega)
theorem WI_txOK {M M1 B' : Me} {n n' : Nat} {T : TT} {C : Nat} {S : SP} {f : Nat → Int32} {g : Int64} (h : WI M n) (hn : n + 1 < 2000) (hC1 : 1 ≤ C) (hC : C ≤ 10) (hS0 : S.1 ≠ 0) (hV : VS C S) (hO : TxOK T M C S M1) (hF : Fr (txM M1 n') B') (h7 : f 7 = nI 0) (hD : PD T B' C S) : WI (fin0 (bc6 (mT B' f g))) (n + 1) := by
  obtain ⟨⟨w1, w2⟩, ⟨w3, w4, w5⟩, w6, w7, w8⟩ := h
  obtain ⟨st, bd, P, nb, b0⟩ := S
  obtain ⟨x2, x1, ⟨y1, y2⟩, ⟨y3, y4, y5⟩, hDc, x6, ⟨x7, x8⟩, ⟨x9, x10⟩, hNb⟩ := hO
  obtain ⟨⟨c1, c2, c3⟩, ⟨c4, c5⟩, ⟨c6, c7⟩, c8, c9, c10, c11⟩ := hDc
  obtain ⟨r1, ⟨r2, r2'⟩, ⟨r3, r3'⟩, r4, r5, r6, r7⟩ := hD
  obtain ⟨-, -, u1, u2, u3⟩ := hNb
  dsimp only at hS0 x7 c4 c5 c6 c7 c8 c9 c10 c11 r2 r2' r3 r3' r4 r5 r6 u1 u2 u3
  have hpq : M.2.2 0 0 9 ≠ M.2.2 0 0 10 := w1.1.1
  generalize hp : M.2.2 0 0 10 = p at *
  generalize hq : M.2.2 0 0 9 = pq at *
  generalize hM2 : fin0 (bc6 (mT B' f g)) = M2
  have q1 : ∀ i r k, i < 60 ∨ i = 61 ∨ i = 67 ∨ i = 68 ∨ 70 ≤ i → M2.1 i r k = M1.1 i r k := fun i r k z => by
    rw [← hM2, bc_o _ (by omega) (by omega) (by omega) (by omega) (by omega), mT_o (by omega), hF.1 i r k (by unfold PZ; omega), txM_o M1 n' (by omega) (by omega)]
  have q22 : M2.2.2 = M1.2.2 := by
    rw [← hM2]
    show B'.2.2 = _
    rw [hF.2.2]; rfl
  have g9 : M2.2.2 0 0 9 = p := by rw [q22, x2]; rfl
  have g10 : M2.2.2 0 0 10 = pq := by rw [q22, x2]; rfl
  have e17 : M2.1 60 0 17 = nI C := by rw [← hM2]; exact r1
  have e18 : M2.1 60 0 18 = nI st := by rw [← hM2]; exact r2
  have e19 : M2.1 60 0 19 = nI bd := by rw [← hM2]; exact r3
  have e23 : M2.1 60 0 23 = nI 1 := by rw [← hM2]; rfl
  have e29 : M2.1 60 0 29 = nI 0 := by rw [← hM2]; rfl
  have e4 : M2.1 60 0 4 = nI 0 := by
    rw [← hM2]
    show B'.1 60 0 4 = _
    rw [hF.1 60 0 4 (by unfold PZ; omega)]; rfl
  have e7 : M2.1 60 0 7 = nI 0 := by rw [← hM2]; exact h7
  have ec : cN M2 = C := by unfold cN; rw [e17]; exact nI_clamp (by omega)
  have es : sN M2 = st := by unfold sN; rw [e18]; exact nI_clamp (by omega)
  have eb : bN M2 = bd := by unfold bN; rw [e19]; exact nI_clamp (by omega)
  have eh : hT M2 = true := by unfold hT; rw [e23]; decide
  have ea : acN M2 = 0 := by unfold acN; rw [e29]; exact nI_clamp (by omega)
  have g62 : ∀ k, k < 36 → M2.1 62 0 k = B'.1 62 0 (36 + k) := fun k hk => by
    rw [← hM2, bc_62 _ hk, mT_o (by omega)]
  have g63 : ∀ k, k < 4 → M2.1 63 0 k = B'.1 63 0 (4 + k) := fun k hk => by
    rw [← hM2, bc_63 _ hk, mT_o (by omega)]
  have g65 : ∀ k, k < 26 → M2.1 65 0 k = B'.1 66 0 k := fun k hk => by
    rw [← hM2, bc_65 _ hk, mT_o (by omega)]
  have g64 : ∀ k, k < 8 → M2.2.1 64 0 k = B'.2.1 64 0 (8 + k) := fun k hk => by
    rw [← hM2, bc_64 _ hk]; rfl
  -- stations and borders by the numbers of both
  have sx : ∀ s, s < st → M2.1 62 0 (3 * s) = M1.1 32 p s ∧ M2.1 62 0 (3 * s + 1) = M1.1 33 p s ∧ M2.1 62 0 (3 * s + 2) = M1.1 34 p s := fun s hs => by
    obtain ⟨⟨⟨k1, k2, k3⟩, -⟩, -⟩ := c8 s hs
    have a := (r4 s hs).1
    have a0 := a 0 (by omega)
    have a1 := a 1 (by omega)
    have a2 := a 2 (by omega)
    refine ⟨?_, ?_, ?_⟩
    · rw [g62 _ (by omega), k1, ← a0, show 36 + 3 * s = 36 + 3 * s + 0 by omega]
    · rw [g62 _ (by omega), k2, ← a1, show 36 + (3 * s + 1) = 36 + 3 * s + 1 by omega]
    · rw [g62 _ (by omega), k3, ← a2, show 36 + (3 * s + 2) = 36 + 3 * s + 2 by omega]
  have bx : ∀ b, b < bd → (M2.1 62 0 (3 * (8 + b)) = M1.1 37 p b ∧ M2.1 62 0 (3 * (8 + b) + 1) = M1.1 38 p b ∧ M2.1 62 0 (3 * (8 + b) + 2) = M1.1 39 p b) ∧ M2.1 63 0 b = M1.1 40 p b := fun b hb => by
    obtain ⟨⟨k1, k2, k3⟩, k4⟩ := c10 b hb
    obtain ⟨a, a4⟩ := r5 b hb
    have a0 := a 0 (by omega)
    have a1 := a 1 (by omega)
    have a2 := a 2 (by omega)
    refine ⟨⟨?_, ?_, ?_⟩, ?_⟩
    · rw [g62 _ (by omega), k1, ← a0, show 36 + 3 * (8 + b) = 60 + 3 * b + 0 by omega]
    · rw [g62 _ (by omega), k2, ← a1, show 36 + (3 * (8 + b) + 1) = 60 + 3 * b + 1 by omega]
    · rw [g62 _ (by omega), k3, ← a2, show 36 + (3 * (8 + b) + 2) = 60 + 3 * b + 2 by omega]
    · rw [g63 _ (by omega), k4, ← a4]
  have far : ∀ s t, s < st → t < st → cFar M1 31 p t (M1.1 32 p s) (M1.1 33 p s) = aFar M2 t s := fun s t hs ht => by
    unfold cFar aFar
    rw [(sx s hs).1, (sx s hs).2.1, (sx t ht).1, (sx t ht).2.1]
  have kcl : ∀ s t, s < st → t < st → kCl M1 p s t = aClash M2 s t := fun s t hs ht => by
    unfold kCl aClash aRch
    rw [far s t hs ht, aFar_sy, (sx s hs).2.2, (sx t ht).2.2]
  have kbr : ∀ s t, s < st → t < st → kBr M1 p s t = aBrush M2 s t := fun s t hs ht => by
    rw [aBrush_sy]
    unfold kBr aBrush kMx aMx aRch
    rw [far s t hs ht, (sx s hs).2.2, (sx t ht).2.2]
  have kbo : ∀ b s, b < bd → s < st → kBo M1 p b s = aCnt M2 b s := fun b s hb hs => by
    unfold kBo aCnt aFar aRch cFar
    rw [(sx s hs).1, (sx s hs).2.1, (bx b hb).1.1, (bx b hb).1.2.1, (bx b hb).1.2.2]
  have ofp : ∀ (F G : Nat → Nat → Bool), (∀ s t, G s t = G t s) → (∀ s t, s < st → t < st → F s t = G s t) → ∀ s t, ofP st 0 F s t = (decide (s < st) && (decide (t < st) && (!decide (t = s) && G s t))) := by
    intro F G hsy hFG s t
    rw [Bool.eq_iff_iff, ofP_i]
    simp only [Bool.and_eq_true, decide_eq_true_eq, Bool.not_eq_true', decide_eq_false_iff_not]
    constructor
    · rintro (⟨z1, z2, z3⟩ | ⟨z1, z2, z3⟩)
      · refine ⟨by omega, by omega, by omega, ?_⟩
        rw [← hFG s t (by omega) (by omega)]; exact z3
      · refine ⟨by omega, by omega, by omega, ?_⟩
        rw [hsy, ← hFG t s (by omega) (by omega)]; exact z3
    · rintro ⟨z1, z2, z3, z4⟩
      rcases Nat.lt_or_ge t s with e | e
      · refine Or.inl ⟨e, by omega, ?_⟩
        rw [hFG s t z1 z2]; exact z4
      · refine Or.inr ⟨by omega, by omega, ?_⟩
        rw [hFG t s z2 z1, hsy]; exact z4
  have hcw : CWp M2 p := by
    refine ⟨⟨?_, ?_, ?_, ?_, ?_⟩, fun s hs => ⟨?_, ?_, ?_⟩, fun s hs => ?_, fun b hb => ⟨?_, ?_, ?_, ?_, ?_⟩⟩
    · rw [q1 _ _ _ (by omega), c1, e17]
    · rw [q1 _ _ _ (by omega), c4, e18]
    · rw [q1 _ _ _ (by omega), c6, e19]
    · rw [q1 _ _ _ (by omega), c2]
    · rw [q1 _ _ _ (by omega), c3]
    · rw [q1 _ _ _ (by omega), (u1 s hs).1]
      congr 1
      funext t
      unfold clS
      rw [es]
      exact ofp _ _ (aClash_sy M2) kcl s t
    · rw [q1 _ _ _ (by omega), (u1 s hs).2]
      congr 1
      funext t
      unfold brS
      rw [es]
      exact ofp _ _ (aBrush_sy M2) kbr s t
    · rw [q1 _ _ _ (by omega), u3 s hs]
      congr 1
      funext j
      unfold opS opB
      rw [es, ec, eb]
      by_cases e : s < st
      · rw [decide_eq_true e, Bool.true_and, Bool.true_and, Bool.not_true, Bool.false_or]
        congr 1
        refine all_cg2 _ (fun b hb => ?_)
        rw [kbo b s hb e, (bx b hb).2]
      · rw [decide_eq_false e, Bool.false_and, Bool.false_and]
    · rw [es] at hs
      obtain ⟨k1, k2, k3⟩ := sx s hs
      rw [q1 32 _ _ (by omega), q1 33 _ _ (by omega), q1 34 _ _ (by omega), k1, k2, k3]
      exact ⟨rfl, rfl, rfl⟩
    · rw [eb] at hb
      rw [q1 _ _ _ (by omega), (bx b hb).1.1]
    · rw [eb] at hb
      rw [q1 _ _ _ (by omega), (bx b hb).1.2.1]
    · rw [eb] at hb
      rw [q1 _ _ _ (by omega), (bx b hb).1.2.2]
    · rw [eb] at hb
      rw [q1 _ _ _ (by omega), (bx b hb).2]
    · rw [eb] at hb
      rw [q1 _ _ _ (by omega), u2 b (by omega)]
      congr 1
      funext t
      rw [es, decide_eq_true hb, Bool.true_and]
      by_cases e : t < st
      · rw [kbo b t hb e]
      · rw [decide_eq_false e, Bool.false_and, Bool.false_and]
  have h65 : ∀ s, s < st → M2.1 65 0 s = M1.1 41 p s ∧ M2.1 65 0 (8 + s) = M1.1 42 p s ∧ M2.1 65 0 (16 + s) = M1.1 35 p s := fun s hs => by
    obtain ⟨⟨-, k4, k5, k6⟩, -⟩ := c8 s hs
    have a := (r4 s hs).2.1
    have a0 := a 0 (by omega)
    have a1 := a 1 (by omega)
    have a2 := a 2 (by omega)
    rw [show 8 * 0 + s = s by omega] at a0
    rw [show 8 * 1 + s = 8 + s by omega] at a1
    rw [show 8 * 2 + s = 16 + s by omega] at a2
    refine ⟨?_, ?_, ?_⟩
    · rw [g65 _ (by omega), a0, k4]
    · rw [g65 _ (by omega), a1, k5]
    · rw [g65 _ (by omega), a2, k6]
  have p9 : pl M2 = p := g9
  have p10 : dr M2 = pq := g10
  have lo : ∀ i r k, i < 30 → ¬ (3 ≤ i ∧ i ≤ 7) → ¬ (i = 8 ∧ k = 2) → i ≠ 13 → ¬ (i = 1 ∧ k = 1) → ¬ (i = 0 ∧ 11 ≤ k ∧ k ≤ 13) → M2.1 i r k = M.1 i r k := fun i r k z1 z2 z3 z4 z5 z6 => by
    rw [q1 i r k (by omega), x1 i r k z2 z3 z4 z5 z6 (by omega)]
  have ex : hx M2 = hx M := by unfold hx; rw [lo 8 0 1 (by omega) (by omega) (by omega) (by omega) (by omega) (by omega)]
  refine ⟨⟨⟨⟨?_, ?_, ?_⟩, ⟨?_, ?_, ?_⟩, ⟨?_, ?_, ?_⟩, ?_, fun s hs => ?_⟩, ⟨0, by omega, ?_, e4, fun k hk => absurd hk (Nat.not_lt_zero k), fun k hk => ?_⟩⟩, ⟨W3_of (by omega) ⟨fun s hs => ?_, fun s hs => ?_, ?_⟩ (fun s hs => ?_) ?_ ?_, ⟨⟨by rw [ea]; exact e29, by omega⟩, ?_, ?_, fun j hj => absurd hj (by omega)⟩, fun i hi => ?_⟩, ⟨?_, ?_, ?_⟩, KNm_up (KNm_fr (B := (M.1, M2.2)) (fun i r k e => ?_) rfl w7) hn, RRe_o w8 ?_⟩
  · rw [p9, p10]; exact fun z => hpq z.symm
  · rw [p10, q1 _ _ _ (by omega), y1, ← hq]; exact w1.2.2.2.1.1.2.2.2.1
  · rw [p10, q1 _ _ _ (by omega), y2, ← hq]; exact w1.2.2.2.1.1.2.2.2.2
  · rw [ec]; exact ⟨e17, hC⟩
  · rw [es]; exact ⟨e18, r2'⟩
  · rw [eb]; exact ⟨e19, r3'⟩
  · rw [eh, e23]; rfl
  · rw [eh, es, decide_eq_true (by omega)]
  · rw [ec]; exact fun _ => hC1
  · rw [p9]; exact hcw
  · rw [es] at hs
    obtain ⟨-, k1, k2, k3⟩ := c8 s hs
    obtain ⟨l1, l2, l3, l4⟩ := tW_lt2 k2
    obtain ⟨_, _, -, -, -, -, -, hz⟩ := hV s hs
    obtain ⟨z, z1, z2⟩ := hz (by omega)
    refine ⟨⟨z, ?_, z2⟩, fun i => T.1 (nb s + i), tL T (nb s), l2, fun i hi => ⟨?_, l3 i hi⟩, ?_, ?_⟩
    · rw [(sx s hs).2.2, (c8 s hs).1.1.2.2]; exact z1
    · rw [p9, q1 _ _ _ (by omega)]; exact k3 i hi
    · rw [p9, q1 _ _ _ (by omega)]; exact k1
    · rw [g64 s (by omega)]; exact (r4 s hs).2.2.1
  · rw [q1 _ _ _ (by omega)]; exact y3
  · rw [q1 61 0 k (by omega), x1 61 0 k (by omega) (by omega) (by omega) (by omega) (by omega) (by omega)]
    exact w2.choose_spec.2.2.2.2 k hk
  · rw [es] at hs
    obtain ⟨⟨-, k4, k5, k6⟩, -⟩ := c8 s hs
    obtain ⟨v, w, v1, v2, v3, v4, v5, -⟩ := hV s hs
    rw [(h65 s hs).1, k4]
    exact ⟨v, v1, v2, by omega⟩
  · rw [es] at hs
    obtain ⟨⟨-, k4, k5, k6⟩, -⟩ := c8 s hs
    obtain ⟨v, w, v1, v2, v3, v4, v5, -⟩ := hV s hs
    rw [(h65 s hs).2.1, k5]
    exact ⟨w, v4, v5⟩
  · rw [es, g65 24 (by omega), r6]
    exact ⟨_, rfl, by have := Nat.two_pow_pos st; omega⟩
  · rw [es] at hs
    obtain ⟨z1, z2, z3⟩ := x6 s (by omega)
    obtain ⟨k1, k2, k3⟩ := h65 s hs
    rw [q1 5 _ _ (by omega), q1 6 _ _ (by omega), q1 7 _ _ (by omega), z1, z2, z3, k1, k2, k3]
    exact ⟨rfl, rfl, rfl⟩
  · rw [q1 4 _ _ (by omega), x7, g65 24 (by omega), r6]
  · rw [q1 4 _ _ (by omega), x8, g65 25 (by omega), r7]
  · rw [ex, lo 8 0 1 (by omega) (by omega) (by omega) (by omega) (by omega) (by omega)]; exact w4.2.1
  · rw [q1 8 _ _ (by omega), x9, e29]
  · have e69 : M2.1 69 0 i = nI 0 := by
      rw [← hM2]
      obtain rfl | rfl : i = 0 ∨ i = 1 := by omega
      · rfl
      · rfl
    have ek : kp M2 i = false := by unfold kp; rw [e69]; decide
    rw [ek, e69, q1 13 _ _ (by omega), x10 i hi]
    exact ⟨⟨rfl, rfl⟩, fun z => by cases z⟩
  · rw [q1 0 _ _ (by omega), y4, ← hM2]; rfl
  · rw [q1 0 _ _ (by omega), y5, e7]
  · rw [q1 0 0 11 (by omega), y4, if_neg (by decide), ← hM2]; rfl
  · rw [P7_i] at e
    exact lo i r k (by omega) (by omega) (by omega) (by omega) (by omega) (by omega)
  · funext r k
    rw [q1 70 r k (by omega), x1 70 r k (by omega) (by omega) (by omega) (by omega) (by omega) (by omega)]
theorem k_text (E : EV) (hS : StrOK E) (x : Int32) : Call2 E m_CS_text m_Mo_text [vI x] := by
  intro n M hn h
  obtain ⟨c, c1, c2, c3, c4, c5⟩ := id h.1.2
  have hTp := WI_RTp h
  have hTb := WI_RTb h
  generalize hT : tpT M (if in3 x c = true then tN x else 0) = T
  have hT1 : ∀ k, T.1 k = if k < 700 then tN (M.1 61 0 k) else 0 := fun k => by rw [← hT]; rfl
  have hT0 : T.2 = if in3 x c = true then tN x else 0 := by rw [← hT]; rfl
  have hT2 : in3 x c = true → T.2 = tN x := fun e => by rw [hT0, if_pos e]
  have hTl : T.2 ≤ c := by
    rw [hT0]
    by_cases e : in3 x c = true
    · rw [if_pos e]
      obtain ⟨k, hk, rfl⟩ := in3_at (by omega) e
      rw [tN_nI (by omega)]; exact hk
    · rw [if_neg e]; omega
  have hCT : CTp T M := by
    refine ⟨by omega, ⟨c, c2, hTl, c1, fun k hk => ?_⟩, fun k => ?_⟩
    · rw [c4 k hk, hT1, if_pos (by omega)]; exact (c5 k (by omega)).1
    · rw [hT1]
      by_cases e : k < 700
      · rw [if_pos e]; exact (c5 k e).2
      · rw [if_neg e]; omega
  have etp : tpN M = c := by
    unfold tpN
    rw [c3]; exact tN_nI (by omega)
  have hin : ∀ M1 : Me, M1.1 60 0 4 = M.1 60 0 4 → txIn M1 x = in3 x c := fun M1 e => by
    unfold txIn in3 tpN
    rw [e, c3, tN_nI (by omega)]
  have htt : ∀ M1 : Me, (∀ k, M1.1 61 0 k = M.1 61 0 k) → in3 x c = true → tpT M1 (tN x) = T := fun M1 e e2 => by
    rw [← hT, if_pos e2]
    unfold tpT
    refine Prod.ext ?_ rfl
    funext k
    dsimp only
    rw [e]
  have hP := fun M1 : Me => fun (e4 : M1.1 60 0 4 = M.1 60 0 4) (e1 : ∀ k, M1.1 61 0 k = M.1 61 0 k) => (⟨by
      unfold RTp tpN
      rw [e4]; exact hTp, fun k hk => by rw [e1]; exact hTb k hk⟩ : RTp M1 ∧ RTb M1)
  refine CallK.mk _ (by omega) (c_text E 0 hS M c c2 c1 x T hCT hT2 h.1.1.1.2.1 h.1.1.1.2.2 h.1.1.1.1) ?_
  rintro r M1 (⟨h0, rfl, rfl⟩ | ⟨h0, k1⟩)
  · refine ⟨_, rfl, CallK.mk _ (by omega) (r_text E 0 (sI M 0 0 11 (nI 2)) hS hTp hTb x) ?_⟩
    rintro r M2 (⟨-, rfl, rfl⟩ | ⟨g0, -⟩)
    · exact ⟨rfl, WI_q0 (t := nI 2) h hn (by decide)⟩
    · rw [hin (sI M 0 0 11 (nI 2)) rfl, h0] at g0
      cases g0
  · cases hPr : prs T with
    | inl q =>
      rw [hPr] at k1
      obtain ⟨rfl, hN⟩ := k1
      have f4 : M1.1 60 0 4 = M.1 60 0 4 := hN.2.1 _ _ _ (by omega) (by omega) (by omega) (by unfold PZc; omega)
      have f61 : ∀ k, M1.1 61 0 k = M.1 61 0 k := fun k => hN.2.1 _ _ _ (by omega) (by omega) (by omega) (by unfold PZc; omega)
      obtain ⟨t1, t2⟩ := hP M1 f4 f61
      refine ⟨_, rfl, CallK.mk _ (by omega) (r_text E 0 M1 hS t1 t2 x) ?_⟩
      rintro r M2 (⟨g0, -⟩ | ⟨-, k2⟩)
      · rw [hin M1 f4, h0] at g0
        cases g0
      · rw [htt M1 f61 h0, hPr] at k2
        obtain ⟨rfl, B', f, g, hF, h7, rfl⟩ := k2
        exact ⟨rfl, WI_txNo h hn hN hF h7⟩
    | inr z =>
      rw [hPr] at k1
      obtain ⟨C, S⟩ := z
      obtain ⟨rfl, hO⟩ := k1
      dsimp only at hO
      obtain ⟨p1, p2, p3, p4⟩ := prs_ok hPr
      have f4 : M1.1 60 0 4 = M.1 60 0 4 := hO.2.1 _ _ _ (by omega) (by omega) (by omega) (by omega) (by omega) (by omega)
      have f61 : ∀ k, M1.1 61 0 k = M.1 61 0 k := fun k => hO.2.1 _ _ _ (by omega) (by omega) (by omega) (by omega) (by omega) (by omega)
      obtain ⟨t1, t2⟩ := hP M1 f4 f61
      refine ⟨_, rfl, CallK.mk _ (by omega) (r_text E 0 M1 hS t1 t2 x) ?_⟩
      rintro r M2 (⟨g0, -⟩ | ⟨-, k2⟩)
      · rw [hin M1 f4, h0] at g0
        cases g0
      · rw [htt M1 f61 h0, hPr] at k2
        obtain ⟨rfl, B', f, g, hF, h7, hD, rfl⟩ := k2
        exact ⟨rfl, WI_txOK h hn p1 p2 p3 p4 hO hF h7 hD⟩
