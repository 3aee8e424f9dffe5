/-! acts: both remember alike -/
theorem setLt8 {x : Int32} {n : Nat} (hn : n ≤ 8) (h : ∀ i, i < 32 → bt x i = true → i < n) : ∃ a, x = nI a ∧ a < 2 ^ n := by
  refine ⟨x.toBitVec.toNat, ?_, ?_⟩
  · apply b_ext
    intro i hi
    rw [b_nI _ hi]
    rfl
  · refine Nat.lt_pow_two_of_testBit _ (n := n) (fun i hi => ?_)
    rcases Nat.lt_or_ge i 32 with e | e
    · have : bt x i = false := by
        cases hc : bt x i with
        | false => rfl
        | true => exact absurd (h i e hc) (by omega)
      exact this
    · exact b_big (x := x) e
theorem ImR_cg {n : Nat} (hn : n ≤ 8) {g c g' c' : Nat → Int32} (hg : ∀ k, k < 26 → g' k = g k) (hc : ∀ k, k < 26 → c' k = c k) (h : ImR n g c) : ImR n g' c' := by
  obtain ⟨⟨h1, h2, h3⟩, h4, h5, h6⟩ := h
  refine ⟨⟨fun s hs => ?_, fun s hs => ?_, ?_⟩, fun s hs => ⟨?_, ?_, ?_⟩, ?_, ?_⟩
  · rw [hg _ (by omega)]; exact h1 s hs
  · rw [hg _ (by omega)]; exact h2 s hs
  · rw [hg _ (by omega)]; exact h3
  · rw [hg _ (by omega), hc _ (by omega)]; exact (h4 s hs).1
  · rw [hg _ (by omega), hc _ (by omega)]; exact (h4 s hs).2.1
  · rw [hg _ (by omega), hc _ (by omega)]; exact (h4 s hs).2.2
  · rw [hg _ (by omega), hc _ (by omega)]; exact h5
  · rw [hg _ (by omega), hc _ (by omega)]; exact h6
theorem snp_3 (M : Me) {s : Nat} (hs : s < 8) : snp M (3 * s) = M.1 5 0 s ∧ snp M (3 * s + 1) = M.1 6 0 s ∧ snp M (3 * s + 2) = M.1 7 0 s := by
  refine ⟨?_, ?_, ?_⟩
  · unfold snp
    rw [if_pos (by omega), if_pos (by omega), show 3 * s / 3 = s by omega]
  · unfold snp
    rw [if_pos (by omega), if_neg (by omega), if_pos (by omega), show (3 * s + 1) / 3 = s by omega]
  · unfold snp
    rw [if_pos (by omega), if_neg (by omega), if_neg (by omega), show (3 * s + 2) / 3 = s by omega]
theorem W3_of {M : Me} (h8 : sN M ≤ 8) (hv : ImV (sN M) (M.1 65 0)) (hn : ∀ s, s < sN M → M.1 5 0 s = M.1 65 0 s ∧ M.1 6 0 s = M.1 65 0 (8 + s) ∧ M.1 7 0 s = M.1 65 0 (16 + s)) (ha : M.1 4 0 3 = M.1 65 0 24) (hp : M.1 4 0 4 = M.1 65 0 25) : W3 M := by
  refine ⟨hv, fun s hs => ?_, ha, hp⟩
  obtain ⟨e1, e2, e3⟩ := snp_3 M (show s < 8 by omega)
  rw [e1, e2, e3]
  exact hn s hs
theorem remM_off (N : Me) {i r k : Nat} (h1 : i ≠ 67) (h2 : ¬ (i = 60 ∧ k = 29)) : (remM N).1 i r k = N.1 i r k := by
  unfold remM rem9
  cases decide (acN N = 10)
  · rw [cond_false, sI_at, if_neg (by omega), setR_if, if_neg (by omega)]
  · rw [cond_true, sI_at, if_neg (by omega), setR_if, if_neg (by omega), setR_if, if_neg (by omega), sI_at, if_neg (by omega)]
theorem remM_2 (N : Me) : (remM N).2 = N.2 := by
  unfold remM rem9
  cases decide (acN N = 10) <;> rfl
theorem remM_29 (N : Me) (h : acN N ≤ 10) : (remM N).1 60 0 29 = nI (min (acN N + 1) 10) := by
  unfold remM
  by_cases e : acN N = 10
  · rw [decide_eq_true e, cond_true, sI_at, if_pos ⟨rfl, rfl, rfl⟩, e]; rfl
  · rw [decide_eq_false e, cond_false, sI_at, if_pos ⟨rfl, rfl, rfl⟩, Nat.min_eq_left (by omega)]
theorem remM_67 (N : Me) (k : Nat) (h : k < 260) : (remM N).1 67 0 k = if acN N = 10 then (if k < 234 then N.1 67 0 (k + 26) else N.1 65 0 (k - 234)) else (if acN N * 26 ≤ k ∧ k < acN N * 26 + 26 then N.1 65 0 (k - acN N * 26) else N.1 67 0 k) := by
  unfold remM rem9
  by_cases e : acN N = 10
  · rw [decide_eq_true e, cond_true, sI_at, if_neg (by omega), if_pos e, setR_if]
    by_cases c : k < 234
    · rw [if_neg (by omega), setR_if, if_pos (by omega), if_pos c]
      rfl
    · rw [if_pos (by omega), if_neg c]
  · rw [decide_eq_false e, cond_false, sI_at, if_neg (by omega), if_neg e, setR_if]
    by_cases c : acN N * 26 ≤ k ∧ k < acN N * 26 + 26
    · rw [if_pos (by omega), if_pos c]
    · rw [if_neg (by omega), if_neg c]
theorem clR_is (M : Me) (i r k : Nat) : (clR M).1 i r k = if i = 8 ∧ r = 0 ∧ k = 2 then nI (min (hz M + 1) 10) else if i = 8 ∧ r = 0 ∧ k = 1 then nI (if hx M + 1 = 10 then 0 else hx M + 1) else if i = 10 ∧ r = hx M ∧ k < 26 then snp M k else M.1 i r k := by
  unfold clR
  rw [sI_at, sI_at, setR_if]
  by_cases h : i = 10 ∧ r = hx M ∧ k < 26
  · rw [if_pos h, if_pos (show i = 10 ∧ r = hx M ∧ 0 ≤ k ∧ k < 0 + 26 by omega)]
    rfl
  · rw [if_neg h, if_neg (show ¬ (i = 10 ∧ r = hx M ∧ 0 ≤ k ∧ k < 0 + 26) by omega)]
theorem clR_off (M : Me) {i r k : Nat} (h1 : ¬ (i = 8 ∧ (k = 1 ∨ k = 2))) (h2 : i ≠ 10) : (clR M).1 i r k = M.1 i r k := by
  rw [clR_is, if_neg (by omega), if_neg (by omega), if_neg (by omega)]
theorem W4_rem {M M2 : Me} (h8 : sN M ≤ 8) (hs : sN M2 = sN M) (h3 : W3 M) (h : W4 M) (c10 : ∀ r k, M2.1 10 r k = (clR M).1 10 r k) (c81 : M2.1 8 0 1 = (clR M).1 8 0 1) (c82 : M2.1 8 0 2 = (clR M).1 8 0 2) (r29 : M2.1 60 0 29 = nI (min (acN M + 1) 10)) (r67 : ∀ k, k < 260 → M2.1 67 0 k = if acN M = 10 then (if k < 234 then M.1 67 0 (k + 26) else M.1 65 0 (k - 234)) else (if acN M * 26 ≤ k ∧ k < acN M * 26 + 26 then M.1 65 0 (k - acN M * 26) else M.1 67 0 k)) : W4 M2 := by
  obtain ⟨⟨a1, a2⟩, ⟨b1', b2⟩, c1, d1⟩ := h
  have hzM : hz M = acN M := by unfold hz acN tN; rw [c1]
  rw [clR_is, if_neg (by omega), if_pos ⟨rfl, rfl, rfl⟩] at c81
  rw [clR_is, if_pos ⟨rfl, rfl, rfl⟩, hzM] at c82
  have ea : acN M2 = min (acN M + 1) 10 := by
    unfold acN
    rw [r29]
    exact nI_clamp (by omega)
  have hx2 : hx M2 = if hx M + 1 = 10 then 0 else hx M + 1 := by
    unfold hx
    rw [c81]
    exact tN_nI (by split <;> omega)
  have hl : hx M2 < 10 ∧ hx M2 % 10 = (hx M + 1) % 10 := by
    rw [hx2]; split <;> omega
  refine ⟨⟨by rw [ea]; exact r29, by omega⟩, ⟨by rw [hx2]; exact c81, hl.1⟩, by rw [c82, r29], fun j hj => ?_⟩
  rw [hs]
  have new : ∀ k, k < 26 → (clR M).1 10 (hx M) k = snp M k := fun k hk => by rw [clR_is, if_neg (by omega), if_neg (by omega), if_pos ⟨rfl, rfl, hk⟩]
  have old : ∀ r k, r ≠ hx M → (clR M).1 10 r k = M.1 10 r k := fun r k hr => by rw [clR_is, if_neg (by omega), if_neg (by omega), if_neg (fun z => hr z.2.1)]
  by_cases e : acN M = 10
  · have e2 : acN M2 = 10 := by omega
    by_cases c : j = 9
    · have er : (hx M2 + (10 - acN M2) + j) % 10 = hx M := by omega
      rw [er]
      refine ImR_cg h8 (fun k hk => ?_) (fun k hk => by rw [c10, new k hk]) h3
      rw [r67 _ (by omega), if_pos e, if_neg (by omega), show 26 * j + k - 234 = k by omega]
    · have er : (hx M2 + (10 - acN M2) + j) % 10 = (hx M + (10 - acN M) + (j + 1)) % 10 := by omega
      rw [er]
      refine ImR_cg h8 (fun k hk => ?_) (fun k hk => ?_) (d1 (j + 1) (by omega))
      · rw [r67 _ (by omega), if_pos e, if_pos (by omega), show 26 * j + k + 26 = 26 * (j + 1) + k by omega]
      · rw [c10, old _ _ (by omega)]
  · have e2 : acN M2 = acN M + 1 := by omega
    by_cases c : j = acN M
    · have er : (hx M2 + (10 - acN M2) + j) % 10 = hx M := by omega
      rw [er]
      refine ImR_cg h8 (fun k hk => ?_) (fun k hk => by rw [c10, new k hk]) h3
      rw [r67 _ (by omega), if_neg e, if_pos (by omega), show 26 * j + k - acN M * 26 = k by omega]
    · have er : (hx M2 + (10 - acN M2) + j) % 10 = (hx M + (10 - acN M) + j) % 10 := by omega
      rw [er]
      refine ImR_cg h8 (fun k hk => ?_) (fun k hk => ?_) (d1 j (by omega))
      · rw [r67 _ (by omega), if_neg e, if_neg (by omega)]
      · rw [c10, old _ _ (by omega)]
theorem WI_rem {M M1 M2 : Me} {n : Nat} (h : WI M n) (c1 : ∀ i r k, ¬ (4 ≤ i ∧ i ≤ 7) → ¬ (14 ≤ i ∧ i ≤ 27) → ¬ (i = 0 ∧ k = 11) → M1.1 i r k = (clR M).1 i r k) (c2 : M1.2 = M.2) (c3 : M1.1 0 0 11 = nI 0) (r1 : ∀ i r k, i ≠ 65 → scrR i k = false → M2.1 i r k = (remM M1).1 i r k) (r2 : M2.2 = M1.2) (e2 : M2.1 60 0 1 = nI 0) (e3 : M2.1 60 0 2 = -(nI 1)) (hK : KNm M1 (n + 1)) (hr : RRe M2) (hv : ImV (sN M) (M2.1 65 0)) (hnw : ∀ s, s < sN M → M1.1 5 0 s = M2.1 65 0 s ∧ M1.1 6 0 s = M2.1 65 0 (8 + s) ∧ M1.1 7 0 s = M2.1 65 0 (16 + s)) (ha : M1.1 4 0 3 = M2.1 65 0 24) (hp : M1.1 4 0 4 = M2.1 65 0 25) : WI M2 (n + 1) := by
  obtain ⟨⟨w1, w2⟩, ⟨w3, w4, w5⟩, w6, -, -⟩ := h
  have g2 : M2.2 = M.2 := r2.trans c2
  have h8 := w1.2.1.2.1.2
  have a1 : ∀ i r k, ¬ (4 ≤ i ∧ i ≤ 7) → ¬ (14 ≤ i ∧ i ≤ 27) → ¬ (i = 0 ∧ k = 11) → ¬ (i = 8 ∧ (k = 1 ∨ k = 2)) → i ≠ 10 → M1.1 i r k = M.1 i r k := fun i r k h1 h2 h3 h4 h5 => by rw [c1 i r k h1 h2 h3, clR_off M h4 h5]
  have a2 : ∀ i r k, i ≠ 65 → ¬ ((70 ≤ i ∧ i ≤ 77) ∨ (i = 60 ∧ (k ≤ 2 ∨ (32 ≤ k ∧ ¬ (k = 34 ∨ k = 39 ∨ k = 40))))) → i ≠ 67 → ¬ (i = 60 ∧ k = 29) → M2.1 i r k = M1.1 i r k := fun i r k h1 h2 h3 h4 => by rw [r1 i r k h1 (scrR_i.mpr h2), remM_off M1 h3 h4]
  have ea : acN M1 = acN M := by unfold acN; rw [a1 60 0 29 (by omega) (by omega) (by omega) (by omega) (by omega)]
  have es : sN M2 = sN M := by unfold sN; rw [a2 60 0 18 (by omega) (by omega) (by omega) (by omega), a1 60 0 18 (by omega) (by omega) (by omega) (by omega) (by omega)]
  refine ⟨⟨W1_fr (fun i r k e => ?_) g2 w1, W2_fr (fun i r k e => ?_) g2 w2⟩, ⟨W3_of (by omega) (by rw [es]; exact hv) (fun s hs => ?_) ?_ ?_, W4_rem h8 es w3 w4 (fun r k => ?_) ?_ ?_ ?_ (fun k hk => ?_), W5_fr (fun i r k e => ?_) g2 w5⟩, ⟨?_, ?_, ?_⟩, KNm_fr (fun i r k e => ?_) r2 hK, hr⟩
  · rw [P1_i] at e
    rw [a2 i r k (by omega) (by omega) (by omega) (by omega), a1 i r k (by omega) (by omega) (by omega) (by omega) (by omega)]
  · rw [P2_i] at e
    rw [a2 i r k (by omega) (by omega) (by omega) (by omega), a1 i r k (by omega) (by omega) (by omega) (by omega) (by omega)]
  · rw [a2 5 0 s (by omega) (by omega) (by omega) (by omega), a2 6 0 s (by omega) (by omega) (by omega) (by omega), a2 7 0 s (by omega) (by omega) (by omega) (by omega)]
    exact hnw s (by omega)
  · rw [a2 4 0 3 (by omega) (by omega) (by omega) (by omega)]; exact ha
  · rw [a2 4 0 4 (by omega) (by omega) (by omega) (by omega)]; exact hp
  · rw [a2 10 r k (by omega) (by omega) (by omega) (by omega), c1 10 r k (by omega) (by omega) (by omega)]
  · rw [a2 8 0 1 (by omega) (by omega) (by omega) (by omega), c1 8 0 1 (by omega) (by omega) (by omega)]
  · rw [a2 8 0 2 (by omega) (by omega) (by omega) (by omega), c1 8 0 2 (by omega) (by omega) (by omega)]
  · rw [r1 60 0 29 (by omega) rfl, remM_29 M1 (by rw [ea]; exact w4.1.2), ea]
  · have e65 : ∀ k, M1.1 65 0 k = M.1 65 0 k := fun k => a1 65 0 k (by omega) (by omega) (by omega) (by omega) (by omega)
    have e67 : ∀ k, M1.1 67 0 k = M.1 67 0 k := fun k => a1 67 0 k (by omega) (by omega) (by omega) (by omega) (by omega)
    rw [r1 67 0 k (by omega) rfl, remM_67 M1 k hk, ea, e65, e65, e67, e67]
  · rw [P5_i] at e
    rw [a2 i r k (by omega) (by omega) (by omega) (by omega), a1 i r k (by omega) (by omega) (by omega) (by omega) (by omega)]
  · rw [a2 0 0 11 (by omega) (by omega) (by omega) (by omega), c3, e2]
  · rw [a2 0 0 12 (by omega) (by omega) (by omega) (by omega), a1 0 0 12 (by omega) (by omega) (by omega) (by omega) (by omega), a2 60 0 7 (by omega) (by omega) (by omega) (by omega), a1 60 0 7 (by omega) (by omega) (by omega) (by omega) (by omega)]
    exact w6.2.1
  · rw [e3, a2 0 0 11 (by omega) (by omega) (by omega) (by omega), c3, if_neg (by decide)]
  · rw [P7_i] at e
    exact a2 i r k (by omega) (by omega) (by omega) (by omega)
