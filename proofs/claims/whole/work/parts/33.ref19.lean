/-! the reference: letter, feed -/
/-- how many letters a name has -/
def lw : Nat → Nat → Nat
  | 0, _ => 0
  | f + 1, v => if v = 0 then 0 else lw f (v / 32) + 1
def nmN (M : Me) (s : Nat) : Nat := (M.2.1 64 0 s).toNatClampNeg
def RNm (M : Me) : Prop := ∀ s, s < sN M → M.2.1 64 0 s = lN (nmN M s) ∧ nmN M s < 32 ^ 8
def nmX (M : Me) (x : Int32) : Nat := bif aSt M x then nmN M (tN x) else 0
def ltIn (n : Nat) (y : Int32) : Bool := decide (nI 0 ≤ y) && decide (y ≤ nI n - nI 1)
def ltV (N : Nat) (y : Int32) : Int32 := nI (N / 32 ^ (lw 8 N - 1 - tN y) % 32) - nI 1
theorem cmp0 {v : Nat} {A B : Prop} (hv : v < 2 ^ 63) (h1 : v = 0 → A) (h2 : v ≠ 0 → B) : (lg_cmp (lN v) (lN 0) ≤ nI 0 → A) ∧ (¬ lg_cmp (lN v) (lN 0) ≤ nI 0 → B) := by
  unfold lg_cmp
  by_cases e : v = 0
  · subst e
    exact ⟨fun _ => h1 rfl, fun q => absurd (by decide) q⟩
  · have : lN v > lN 0 := (pk_lLT (by omega) hv).mpr (by omega)
    rw [if_pos this]
    exact ⟨fun q => absurd q (by decide), fun _ => h2 e⟩
theorem lw_le : ∀ (f v : Nat), lw f v ≤ f
  | 0, _ => Nat.le_refl 0
  | f + 1, v => by
    rw [lw]
    by_cases e : v = 0
    · rw [if_pos e]; omega
    · rw [if_neg e]
      have := lw_le f (v / 32)
      omega
def tpN (M : Me) : Nat := tN (M.1 60 0 4)
def RTp (M : Me) : Prop := M.1 60 0 4 = nI (tpN M) ∧ tpN M ≤ 700
/-- the bytes of a number, and of five -/
def by4 (w : Int32) (j : Nat) : Int32 := w >>> (nI (24 - 8 * j) &&& 31) &&& nI 255
def fdS (a b c d e : Int32) (k : Nat) : Int32 := if k < 4 then a else if k < 8 then b else if k < 12 then c else if k < 16 then d else e
def fdB (a b c d e : Int32) (k : Nat) : Int32 := by4 (fdS a b c d e k) (k % 4)
def nFeed (M : Me) (a b c d e : Int32) : Me := sI (setR (M0 M) 61 0 (tpN M) 20 (fdB a b c d e)) 60 0 4 (nI (tpN M + 20))
theorem rem4 : ∀ k, k < 20 → nI k - nI k / nI 4 * nI 4 = nI (k % 4) := by decide +kernel
section R20
variable (E : EV) (d : Nat) (M : Me)
theorem r_letter (hX : RX M) (hN : RNm M) (x y : Int32) : Mt E (d + 2) m_Mo_letter [vP 60 0, vI x, vI y] M (fun r M' => (ltIn (lw 8 (nmX M x)) y = false ∧ r = some (vI (nI 0)) ∧ M' = sI (M0 M) 60 0 0 (nI 1)) ∨ (ltIn (lw 8 (nmX M x)) y = true ∧ r = some (vI (ltV (nmX M x) y)) ∧ M' = M0 M)) := by
  have hX0 : RX (M0 M) := hX
  have hn := hX.1.2.1.2
  generalize hQ : (fun r M' => (ltIn (lw 8 (nmX M x)) y = false ∧ r = some (vI (nI 0)) ∧ M' = sI (M0 M) 60 0 0 (nI 1)) ∨ (ltIn (lw 8 (nmX M x)) y = true ∧ r = some (vI (ltV (nmX M x) y)) ∧ M' = M0 M) : Option AV → Me → Prop) = Q
  refine Mt.go ok_Mo_letter [23] 60 rfl ?_
  have rest : ∀ w N, N = nmX M x → N < 32 ^ 8 → w = lN N → Wp E (d + 2) m_Mo_letter 23 [some (vP 60 0), some (vI x), some (vI y), none, none, none, none, none] [vJ w] (M0 M) Q := by
    rintro w N hNx hN8 rfl
    generalize hL : lw 8 N = L
    have hL8 : L ≤ 8 := by rw [← hL]; exact lw_le 8 N
    -- behind the counting
    have behind : ∀ v7, Wp E (d + 2) m_Mo_letter 51 [some (vP 60 0), some (vI x), some (vI y), some (vJ (lN N)), none, some (vI (nI L)), some (vJ v7), none] [] (M0 M) Q := by
      intro v7
      refine go ok_Mo_letter [76] 60 ?_
      refine xq d ok_Mo_in (r_in E d _ _ _ _) (by omega) ?_
      have ein : (decide (nI 0 ≤ y) && decide (y ≤ nI L - nI 1)) = ltIn L y := rfl
      rw [ein]
      refine brN (fun h => ?_) (fun h => ?_)
      · have h2 := h
        simp only [ltIn, Bool.and_eq_true, decide_eq_true_eq] at h2
        obtain ⟨i, hi, rfl⟩ := nneg h2.1
        have hL1 : 1 ≤ L := by
          rcases Nat.eq_zero_or_pos L with e | e
          · rw [e] at h2
            have h3 := Int32.le_iff_toInt_le.mp h2.2
            rw [nI_toInt hi, show (nI 0 - nI 1).toInt = -1 by decide] at h3
            omega
          · exact e
        rw [nI_m1 (by omega)] at h2
        have hi2 : i ≤ L - 1 := (nI_leI hi (by omega)).mp h2.2
        have down : ∀ j k, k = i + j → k ≤ L - 1 → ∀ v, v = N / 32 ^ (L - 1 - k) → ∀ j7, Wp E (d + 2) m_Mo_letter 76 [some (vP 60 0), some (vI x), some (vI (nI i)), some (vJ (lN v)), none, some (vI (nI L)), some (vI (nI k)), j7] [] (M0 M) Q := by
          intro j
          induction j with
          | zero =>
            intro k hk0 hk v hv j7
            have hki : k = i := by omega
            rw [hki] at hv ⊢
            have hv63 : v < 2 ^ 63 := by
              rw [hv]
              exact Nat.lt_of_le_of_lt (Nat.div_le_self _ _) (by omega)
            refine go ok_Mo_letter [76] 60 ?_
            refine cLe (by omega) (by omega) (fun _ => ?_) (fun q => absurd q (by omega))
            refine And.intro (by decide) ?_
            have e32 : lN v - lN v / lN 32 * lN 32 = lN (v % 32) := pk_lRem hv63 (by omega) (by omega)
            have e33 : (lN v - lN v / lN 32 * lN 32).toInt32 = nI (v % 32) := by rw [e32, lN_i]
            rw [← hQ]
            refine Or.inr ⟨?_, ?_, rfl⟩
            · rw [← hNx, hL]; exact h
            · rw [← hNx]
              unfold ltV
              rw [hL, tN_nI hi, ← hv, ← e33]
          | succ j ihj =>
            rintro k rfl hk v hv j7
            have hv63 : v < 2 ^ 63 := by
              rw [hv]
              exact Nat.lt_of_le_of_lt (Nat.div_le_self _ _) (by omega)
            refine go ok_Mo_letter [76] 60 ?_
            refine cLe (by omega) (by omega) (fun q => absurd q (by omega)) (fun _ => ?_)
            refine And.intro (by decide) ?_
            have ed : lN v / lN 32 = lN (v / 32) := pk_lDiv hv63 (by omega) (by omega)
            have := ihj (i + j) rfl (by omega) (v / 32) (by
              rw [hv, Nat.div_div_eq_div_mul, ← Nat.pow_succ]
              congr 2
              omega) j7
            rw [← ed] at this
            refine nm_r (nI_m1 (by omega)) ?_
            exact this
        have hd := down (L - 1 - i) (L - 1) (by omega) (Nat.le_refl _) N (by rw [Nat.sub_self, Nat.pow_zero, Nat.div_one]) none
        rw [← nI_m1 (by omega)] at hd
        exact hd
      · rw [← hQ]
        refine Or.inl ⟨?_, rfl, rfl⟩
        rw [← hNx, hL]; exact h
    have count : ∀ f v n, v < 32 ^ f → f ≤ 8 → n + lw f v = L → Wp E (d + 2) m_Mo_letter 30 [some (vP 60 0), some (vI x), some (vI y), some (vJ (lN N)), none, some (vI (nI n)), some (vJ (lN v)), none] [] (M0 M) Q := by
      intro f
      induction f with
      | zero =>
        intro v n hv _ hn2
        refine go ok_Mo_letter [51] 60 ?_
        refine cmp0 (by omega) (fun _ => ?_) (fun q => absurd hv (by omega))
        rw [lw, Nat.add_zero] at hn2
        rw [hn2]
        exact behind _
      | succ f ihf =>
        intro v n hv hf hn2
        have h8 : 32 ^ (f + 1) ≤ 32 ^ 8 := Nat.pow_le_pow_right (by omega) hf
        refine go ok_Mo_letter [30, 51] 60 ?_
        refine cmp0 (by omega) (fun q => ?_) (fun q => ?_)
        · rw [lw, if_pos q, Nat.add_zero] at hn2
          rw [hn2]
          exact behind _
        · rw [lw, if_neg q] at hn2
          refine nm_r (nI_add _ _) ?_
          refine And.intro (by decide) ?_
          have ed : lN v / lN 32 = lN (v / 32) := pk_lDiv (by omega) (by omega) (by omega)
          have := ihf (v / 32) (n + 1) (by
            rw [Nat.div_lt_iff_lt_mul (by omega)]
            rw [Nat.pow_succ] at hv
            exact hv) (by omega) (by omega)
          rw [← ed] at this
          exact this
    refine go ok_Mo_letter [30] 60 ?_
    exact count 8 N 0 hN8 (Nat.le_refl 8) (by rw [Nat.zero_add]; exact hL)
  refine xq (d + 1) ok_Mo_isStation (r_isStation E d _ hX0 x) (by omega) ?_
  refine brF (fun h => ?_) (fun h => ?_)
  · have h : aSt M x = false := h
    refine rest (lN 0) 0 ?_ (by decide) rfl
    unfold nmX; rw [h]; rfl
  · have h : aSt M x = true := h
    obtain ⟨s, hs, rfl⟩ := aSt_at hX.1 h
    obtain ⟨n1, n2⟩ := hN s hs
    refine ix s (show _ < 16 by omega) rfl ?_
    refine rest _ (nmN M s) ?_ n2 n1
    unfold nmX; rw [h, tN_nI (by omega)]; rfl
theorem r_feed (hT : RTp M) (a b c e f : Int32) : Mt E d m_Mo_feed [vP 60 0, vI a, vI b, vI c, vI e, vI f] M (fun r M' => (680 < tpN M ∧ r = some (vI (-(nI 1))) ∧ M' = M0 M) ∨ (tpN M ≤ 680 ∧ r = some (vI (nI (tpN M + 20))) ∧ M' = nFeed M a b c e f)) := by
  obtain ⟨h1, h2⟩ := hT
  refine Mt.go ok_Mo_feed [23] 60 rfl ?_
  have e20 : (M0 M).1 60 0 4 + nI 20 = nI (tpN M + 20) := by
    show M.1 60 0 4 + nI 20 = _
    rw [h1, nI_add]
  refine qLe e20 rfl (by omega) (by omega) (fun h => ?_) (fun h => ?_)
  · have key : ∀ k, k ≤ 20 → ∀ N, N = setR (M0 M) 61 0 (tpN M) k (fdB a b c e f) → ∀ j7, Wp E d m_Mo_feed 23 [some (vP 60 0), some (vI a), some (vI b), some (vI c), some (vI e), some (vI f), some (vI (nI k)), j7] [] N (fun r M' => (680 < tpN M ∧ r = some (vI (-(nI 1))) ∧ M' = M0 M) ∨ (tpN M ≤ 680 ∧ r = some (vI (nI (tpN M + 20))) ∧ M' = nFeed M a b c e f)) := by
      refine loopUp 20 ?_ ?_
      · rintro N rfl j7
        refine go ok_Mo_feed [23] 60 ?_
        refine cLe (by omega) (by omega) (fun _ => ?_) (fun q => absurd q (by omega))
        refine Or.inr ⟨by omega, ?_, ?_⟩
        · show some (vI ((M0 M).1 60 0 4 + nI 20)) = _
          rw [e20]
        · unfold nFeed
          rw [← e20]; rfl
      · rintro k hlt ih N rfl j7
        refine go ok_Mo_feed [23, 76] 60 ?_
        refine cLe (by omega) (by omega) (fun q => absurd q (by omega)) (fun _ => ?_)
        have tail : ∀ w, w = fdS a b c e f k → Wp E d m_Mo_feed 76 [some (vP 60 0), some (vI a), some (vI b), some (vI c), some (vI e), some (vI f), some (vI (nI k)), j7] [vI w] (setR (M0 M) 61 0 (tpN M) k (fdB a b c e f)) (fun r M' => (680 < tpN M ∧ r = some (vI (-(nI 1))) ∧ M' = M0 M) ∨ (tpN M ≤ 680 ∧ r = some (vI (nI (tpN M + 20))) ∧ M' = nFeed M a b c e f)) := by
          rintro w rfl
          refine go ok_Mo_feed [23] 60 ?_
          refine And.intro (by decide) ?_
          refine ix (tpN M + k) (show _ < 700 by omega) (by show M.1 60 0 4 + nI k = _; rw [h1, nI_s8]) ?_
          refine nm_r (nI_add _ _) (ih _ ?_ _)
          rw [← setR_step, rem4 k hlt, nI_mul, pk_sub (by omega)]
          rfl
        refine cLe (by omega) (by omega) (fun q1 => ?_) (fun q1 => ?_)
        · refine cLe (by omega) (by omega) (fun q2 => ?_) (fun q2 => ?_)
          · refine cLe (by omega) (by omega) (fun q3 => ?_) (fun q3 => ?_)
            · refine cLe (by omega) (by omega) (fun q4 => ?_) (fun q4 => ?_)
              · refine tail _ ?_
                unfold fdS; rw [if_neg (by omega), if_neg (by omega), if_neg (by omega), if_neg (by omega)]
              · refine tail _ ?_
                unfold fdS; rw [if_neg (by omega), if_neg (by omega), if_neg (by omega), if_pos (by omega)]
            · refine tail _ ?_
              unfold fdS; rw [if_neg (by omega), if_neg (by omega), if_pos (by omega)]
          · refine tail _ ?_
            unfold fdS; rw [if_neg (by omega), if_pos (by omega)]
        · refine tail _ ?_
          unfold fdS; rw [if_pos (by omega)]
    exact key 0 (Nat.zero_le _) _ (setR_0 _ _ _ _ _).symm _
  · exact Or.inl ⟨by omega, rfl, rfl⟩
end R20
