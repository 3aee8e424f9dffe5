/-! the class: about, station, border, lower, heard, islands -/
def ush (x : Int32) (k : Nat) : Int32 := (x.toUInt32 >>> ((nI k).toUInt32 &&& Int32.toUInt32 31)).toInt32
def bc1' (x : Int32) : Int32 := x - (ush x 1 &&& nI 1431655765)
def bc2' (x : Int32) : Int32 := (x &&& nI 858993459) + (ush x 2 &&& nI 858993459)
def bc3' (x : Int32) : Int32 := x + ush x 4 &&& nI 252645135
def bc4' (x : Int32) : Int32 := x + ush x 8
def bc5' (x : Int32) : Int32 := x + ush x 16 &&& nI 63
theorem bcT : ∀ k, k < 1024 → bc5' (bc4' (bc3' (bc2' (bc1' (nI k))))) = aBits (nI k) 16 := by decide +kernel
theorem isSm_of {x : Int32} (h : ∀ i, 8 ≤ i → i < 32 → bt x i = false) : isSm x := by
  refine ⟨x.toBitVec.toNat, ?_, ?_⟩
  · refine Nat.lt_pow_two_of_testBit _ (n := 8) (fun i hi => ?_)
    rcases Nat.lt_or_ge i 32 with e | e
    · exact h i hi e
    · exact b_big (x := x) e
  · apply b_ext
    intro i hi
    rw [b_nI _ hi]
    rfl
theorem isSm_bt {x : Int32} (h : isSm x) {i : Nat} (hi : 8 ≤ i) : bt x i = false := by
  obtain ⟨k, hk, rfl⟩ := h
  rcases Nat.lt_or_ge i 32 with e | e
  · rw [b_nI _ e]
    exact Nat.testBit_lt_two_pow (Nat.lt_of_lt_of_le hk (Nat.pow_le_pow_right (n := 2) (i := 8) (by omega) hi))
  · exact b_big e
theorem and_ne {x y : Int32} (h : ¬ x &&& y = nI 0) : ∃ a, a < 32 ∧ bt x a = true ∧ bt y a = true := by
  refine Classical.byContradiction fun q => h ?_
  apply b_ext
  intro i hi
  rw [b_and, b_0]
  cases h1 : bt x i with
  | false => rfl
  | true =>
    cases h2 : bt y i with
    | false => rfl
    | true => exact absurd ⟨i, hi, h1, h2⟩ q
theorem and_in {x y : Int32} {a : Nat} (hx : bt x a = true) (hy : bt y a = true) : ¬ x &&& y = nI 0 := by
  intro e
  have e1 := congrArg (fun z => bt z a) e
  simp only [b_and, hx, hy, b_0] at e1
  cases e1
theorem or_b1s {x : Int32} {t : Nat} (ht : t < 32) (h : bt x t = true) : x ||| b1 t = x := by
  apply b_ext
  intro i hi
  rw [b_or, b1_at ht hi]
  by_cases e : i = t
  · subst e; rw [h]; rfl
  · rw [decide_eq_false e, Bool.or_false]
/-! an island, sweep by sweep -/
def swp (cl : Nat → Int32) (am : Int32) : Nat → Int32 → Int32
  | 0, x => x
  | t + 1, x => bif bt am t && !decide (cl t &&& swp cl am t x = nI 0) then swp cl am t x ||| b1 t else swp cl am t x
def rnds (cl : Nat → Int32) (am : Int32) (n : Nat) : Nat → Int32 → Int32
  | 0, x => x
  | k + 1, x => swp cl am n (rnds cl am n k x)
section SW
variable {cl : Nat → Int32} {am : Int32}
theorem swp_up (x : Int32) : ∀ (t i : Nat), bt x i = true → bt (swp cl am t x) i = true
  | 0, i, h => h
  | t + 1, i, h => by
    have ih := swp_up x t i h
    rw [swp]
    cases (bt am t && !decide (cl t &&& swp cl am t x = nI 0)) with
    | false => exact ih
    | true => rw [cond_true, b_or, ih]; rfl
theorem swp_tt (x : Int32) : ∀ (t u i : Nat), bt (swp cl am t x) i = true → bt (swp cl am (t + u) x) i = true
  | t, 0, i, h => h
  | t, u + 1, i, h => by
    have ih := swp_tt x t u i h
    rw [show t + (u + 1) = (t + u) + 1 by omega, swp]
    cases (bt am (t + u) && !decide (cl (t + u) &&& swp cl am (t + u) x = nI 0)) with
    | false => exact ih
    | true => rw [cond_true, b_or, ih]; rfl
theorem swp_in (P : Nat → Prop) (x : Int32) (n : Nat) (hn : n ≤ 32) (h0 : ∀ i, i < 32 → bt x i = true → P i) (hs : ∀ t a, t < n → a < 32 → P a → bt am t = true → bt (cl t) a = true → P t) : ∀ (t : Nat), t ≤ n → ∀ i, i < 32 → bt (swp cl am t x) i = true → P i
  | 0, _, i, hi, h => h0 i hi h
  | t + 1, ht, i, hi, h => by
    have ih := swp_in P x n hn h0 hs t (by omega)
    rw [swp] at h
    cases hc : (bt am t && !decide (cl t &&& swp cl am t x = nI 0)) with
    | false => rw [hc] at h; exact ih i hi h
    | true =>
      rw [hc, cond_true, b_or, b1_at (by omega) hi] at h
      simp only [Bool.and_eq_true, Bool.not_eq_true', decide_eq_false_iff_not] at hc
      rcases Bool.or_eq_true_iff.mp h with q | q
      · exact ih i hi q
      · have q := of_decide_eq_true q
        subst q
        obtain ⟨a, ha, h1, h2⟩ := and_ne hc.2
        exact hs i a (by omega) ha (ih a ha h2) hc.1 h1
theorem swp_ms (x : Int32) (n : Nat) (hn : n ≤ 32) : ∀ (t : Nat), t ≤ n → mss (swp cl am t x) n ≤ mss x n ∧ (mss (swp cl am t x) n = mss x n → swp cl am t x = x)
  | 0, _ => ⟨Nat.le_refl _, fun _ => rfl⟩
  | t + 1, ht => by
    obtain ⟨i1, i2⟩ := swp_ms x n hn t (by omega)
    rw [swp]
    cases (bt am t && !decide (cl t &&& swp cl am t x = nI 0)) with
    | false => exact ⟨i1, i2⟩
    | true =>
      rw [cond_true]
      cases hb : bt (swp cl am t x) t with
      | true => rw [or_b1s (by omega) hb]; exact ⟨i1, i2⟩
      | false =>
        have hu := mss_up hb (show t < 32 by omega) n hn
        rw [if_pos (by omega)] at hu
        exact ⟨by omega, fun e => absurd e (by omega)⟩
theorem swp_cl (x : Int32) (n : Nat) (e : swp cl am n x = x) : ∀ a b, b < n → bt x a = true → bt am b = true → bt (cl b) a = true → b < 32 → bt x b = true := by
  intro a b hb ha hm hc h32
  have h1 : bt (swp cl am (b + 1) x) b = true := by
    rw [swp]
    have : (bt am b && !decide (cl b &&& swp cl am b x = nI 0)) = true := by
      rw [hm, decide_eq_false (and_in hc (swp_up x b a ha))]; rfl
    rw [this, cond_true, b_or, b1_at h32 h32, decide_eq_true rfl, Bool.or_true]
  have h2 := swp_tt (cl := cl) (am := am) x (b + 1) (n - (b + 1)) b h1
  rw [show b + 1 + (n - (b + 1)) = n by omega, e] at h2
  exact h2
theorem rnds_st (x : Int32) (n k : Nat) (e : swp cl am n (rnds cl am n k x) = rnds cl am n k x) : ∀ j, rnds cl am n (k + j) x = rnds cl am n k x
  | 0 => rfl
  | j + 1 => by
    rw [show k + (j + 1) = (k + j) + 1 by omega, rnds, rnds_st x n k e j, e]
theorem rnds_ms (x : Int32) (n : Nat) (hn : n ≤ 32) : ∀ (k : Nat), swp cl am n (rnds cl am n k x) = rnds cl am n k x ∨ mss (rnds cl am n (k + 1) x) n + (k + 1) ≤ mss x n
  | 0 => by
    obtain ⟨h1, h2⟩ := swp_ms (cl := cl) (am := am) x n hn n (Nat.le_refl n)
    by_cases e : mss (swp cl am n x) n = mss x n
    · exact Or.inl (h2 e)
    · refine Or.inr ?_
      show mss (swp cl am n x) n + 1 ≤ _
      omega
  | k + 1 => by
    obtain ⟨h1, h2⟩ := swp_ms (cl := cl) (am := am) (rnds cl am n (k + 1) x) n hn n (Nat.le_refl n)
    by_cases e : mss (swp cl am n (rnds cl am n (k + 1) x)) n = mss (rnds cl am n (k + 1) x) n
    · exact Or.inl (h2 e)
    · rcases rnds_ms x n hn k with q | q
      · refine Or.inl ?_
        rw [show rnds cl am n (k + 1) x = rnds cl am n k x from rnds_st x n k q 1]
        exact q
      · refine Or.inr ?_
        rw [rnds]
        omega
theorem rnds_fix (x : Int32) (n : Nat) (hn : n ≤ 8) : swp cl am n (rnds cl am n 8 x) = rnds cl am n 8 x := by
  rcases rnds_ms (cl := cl) (am := am) x n (by omega) 8 with h | h
  · exact h
  · have := mss_le x n
    omega
end SW
theorem aFar_sy (M : Me) (s t : Nat) : aFar M s t = aFar M t s := by
  unfold aFar
  have sq : ∀ u v : Int32, (u - v) * (u - v) = (v - u) * (v - u) := fun u v => by
    have e : u - v = -(v - u) := Int32.neg_sub.symm
    rw [e, Int32.neg_mul, Int32.mul_neg, Int32.neg_neg]
  rw [sq (M.1 62 0 (3 * s)), sq (M.1 62 0 (3 * s + 1))]
theorem aClash_sy (M : Me) (s t : Nat) : aClash M s t = aClash M t s := by
  unfold aClash
  rw [aFar_sy M s t, Int32.add_comm (aRch M s)]
theorem aBrush_sy (M : Me) (s t : Nat) : aBrush M s t = aBrush M t s := by
  unfold aBrush
  rw [aFar_sy M s t]
  have : aMx M s t = aMx M t s := by
    unfold aMx
    by_cases h : aRch M t < aRch M s
    · rw [if_pos h, if_neg (fun q => Int32.lt_irrefl (Int32.lt_trans h q))]
    · by_cases h2 : aRch M s < aRch M t
      · rw [if_neg h, if_pos h2]
      · rw [if_neg h, if_neg h2]
        exact Int32.le_antisymm (Int32.not_lt.mp h2) (Int32.not_lt.mp h)
  rw [this]
theorem island_eq {M : Me} (hn : sN M ≤ 8) {s : Nat} (hs : s < sN M) (cl : Nat → Int32) (hcl : ∀ t, t < sN M → cl t = S32 (clS M t)) : rnds cl (M.1 65 0 24) (sN M) 8 (b1 s) = isl (aS M) (aClash M) (sN M) s := by
  have hin : ∀ k i, i < 32 → bt (rnds cl (M.1 65 0 24) (sN M) k (b1 s)) i = true → Rh (aS M) (aClash M) (sN M) s i := by
    intro k
    induction k with
    | zero =>
      intro i hi h
      rw [rnds, b1_at (by omega) hi] at h
      have h := of_decide_eq_true h
      subst h
      exact Rh_base
    | succ k ih =>
      intro i hi h
      refine swp_in (fun i => Rh (aS M) (aClash M) (sN M) s i) _ (sN M) (by omega) ih ?_ (sN M) (Nat.le_refl _) i hi h
      intro t a ht ha hP hm hc
      rw [hcl t ht, S32_at ha] at hc
      unfold clS at hc
      simp only [Bool.and_eq_true, decide_eq_true_eq] at hc
      refine Rh_step hP hc.2.1 ht hm ?_
      rw [aClash_sy]; exact hc.2.2.2
  refine isl_eq fun i hi => ⟨fun h => hin 8 i hi h, fun h => ?_⟩
  have hfix := rnds_fix (cl := cl) (am := M.1 65 0 24) (b1 s) (sN M) hn
  have hup : ∀ k, bt (rnds cl (M.1 65 0 24) (sN M) k (b1 s)) s = true := by
    intro k
    induction k with
    | zero => rw [rnds, b1_at (by omega) (by omega), decide_eq_true rfl]
    | succ k ih => rw [rnds]; exact swp_up _ _ _ ih
  refine h (fun i => bt (rnds cl (M.1 65 0 24) (sN M) 8 (b1 s)) i = true) (hup 8) ?_
  intro a b ha han hbn hS hC
  by_cases e : a = b
  · subst e; exact ha
  · refine swp_cl _ _ hfix a b hbn ha hS ?_ (by omega)
    rw [hcl b hbn, S32_at (by omega)]
    unfold clS
    rw [decide_eq_true hbn, decide_eq_true han, decide_eq_false e, aClash_sy, hC]; rfl
theorem isl_sm {M : Me} (hn : sN M ≤ 8) {s : Nat} (hs : s < sN M) : isSm (isl (aS M) (aClash M) (sN M) s) := by
  refine isSm_of fun i hi h32 => ?_
  unfold isl
  rw [S32_at h32]
  refine @decide_eq_false _ (Classical.propDecidable _) (fun h => ?_)
  have := h (fun i => i < 8) (by omega) (fun a b _ _ hb _ _ => by omega)
  omega
theorem cq_ye {M : Me} {p : AT} {v : Int32} (e : p = ye v) : CQ M p (some (vI v)) (sI M 0 0 11 (nI 0)) := by
  subst e
  exact ⟨rfl, rfl⟩
section C3
variable (E : EV) (d : Nat) (M : Me)
theorem c_bitCount (k : Nat) (hk : k < 1024) : Mt E d m_Integer_bitCount [vI (nI k)] M (RP (vI (aBits (nI k) 16)) M) := by
  refine Mt.go ok_Integer_bitCount [] 60 rfl ?_
  refine And.intro ?_ rfl
  show some (vI (bc5' (bc4' (bc3' (bc2' (bc1' (nI k))))))) = _
  rw [bcT k hk]
theorem c_bitCountS {x : Int32} (h : isSm x) : Mt E d m_Integer_bitCount [vI x] M (RP (vI (aBits x 16)) M) := by
  obtain ⟨k, hk, rfl⟩ := h
  exact c_bitCount E d M k (by omega)
theorem c_about (h : CI M) (x : Int32) : Mt E (d + 5) m_CS_about [vP 0 0, vI x] M (CQ M (qAbout M x)) := by
  obtain ⟨⟨hR, -⟩, hB, hx, hW, hN, hA⟩ := id h
  have h8 := hR.2.1.2
  refine Mt.go ok_CS_about [17, 23] 60 rfl ?_
  have bad : qAbout M x = no 1 → Wp E (d + 5) m_CS_about 17 [some (vP 0 0), some (vI x)] [] M (CQ M (qAbout M x)) := by
    intro e
    refine go ok_CS_about [] 60 ?_
    refine x_cref E _ (nI 1) (by omega) ?_
    rw [e]; exact And.intro rfl rfl
  refine xq d ok_CS_hasText (c_hasText E d M h) (by omega) ?_
  refine brF (fun q => ?_) (fun q => ?_)
  · exact bad (by unfold qAbout; rw [if_pos q])
  · have hq : ¬ hT M = false := by rw [q]; decide
    refine And.intro (fun z => ?_) (fun z => ?_)
    · refine bad ?_
      have hne : ∀ j, j < 9 → ¬ x = nI j := fun j hj e => by
        rw [e] at z
        have := (nI_ltI (by omega) (by omega)).mp z
        omega
      unfold qAbout
      rw [if_neg hq, if_neg (hne 0 (by omega)), if_neg (hne 1 (by omega)), if_neg (hne 2 (by omega)), if_neg (hne 3 (by omega)), if_neg (hne 4 (by omega)), if_neg (hne 5 (by omega)), if_neg (hne 6 (by omega)), if_neg (hne 7 (by omega)), if_neg (hne 8 (by omega))]
    · obtain ⟨k, hk, rfl⟩ := nneg (Int32.not_lt.mp z)
      refine cLe hk (by omega) (fun w => ?_) (fun w => ?_)
      · have hd : ∀ j, j < 9 → j ≠ k → ¬ nI k = nI j := fun j hj e => nI_dne hk (by omega) (Ne.symm e)
        refine go ok_CS_about [] 60 ?_
        refine And.intro (fun o => ?_) (And.intro (fun e => ?_) (And.intro (fun e => ?_) (And.intro (fun e => ?_) (And.intro (fun e => ?_) (And.intro (fun e => ?_) (And.intro (fun e => ?_) (And.intro (fun e => ?_) (And.intro (fun e => ?_) trivial))))))))
        · have k8 : k = 8 := by
            rcases o with o | o
            · have := (nI_ltI hk (by omega)).mp o; omega
            · have := (nI_ltI (by omega) hk).mp o; omega
          subst k8
          refine x_cans E _ _ (by omega) (cq_ye ?_)
          have e : qAbout M (nI 8) = ye (M.1 60 0 29) := by
            unfold qAbout
            rw [if_neg hq, if_neg (by decide), if_neg (by decide), if_neg (by decide), if_neg (by decide), if_neg (by decide), if_neg (by decide), if_neg (by decide), if_neg (by decide), if_pos rfl]
          refine e.trans ?_
          rw [← hA.1]
        · rw [e]
          refine x_cans E _ _ (by omega) (cq_ye ?_)
          have e : qAbout M (nI 0) = ye (nI (cN M)) := by unfold qAbout; rw [if_neg hq, if_pos rfl]
          refine e.trans ?_
          rw [← hR.1.1, ← hW.1.1]
        · rw [e]
          refine x_cans E _ _ (by omega) (cq_ye ?_)
          have e : qAbout M (nI 1) = ye (nI (sN M)) := by unfold qAbout; rw [if_neg hq, if_neg (by decide), if_pos rfl]
          refine e.trans ?_
          rw [← hR.2.1.1, ← hW.1.2.1]
        · rw [e]
          refine x_cans E _ _ (by omega) (cq_ye ?_)
          have e : qAbout M (nI 2) = ye (nI (bN M)) := by unfold qAbout; rw [if_neg hq, if_neg (by decide), if_neg (by decide), if_pos rfl]
          refine e.trans ?_
          rw [← hR.2.2.1.1, ← hW.1.2.2.1]
        · rw [e]
          refine x_cans E _ _ (by omega) (cq_ye ?_)
          have e : qAbout M (nI 3) = ye (M.1 65 0 24) := by unfold qAbout; rw [if_neg hq, if_neg (by decide), if_neg (by decide), if_neg (by decide), if_pos rfl]
          refine e.trans ?_
          rw [← hN.1]
        · rw [e]
          refine xq (d + 4) ok_Now_wrongOnes (c_wrongOnes E d M hR hB hW hN) (by omega) ?_
          refine x_cans E _ _ (by omega) (cq_ye ?_)
          have e : qAbout M (nI 4) = ye (S32 (aWrong M)) := by unfold qAbout; rw [if_neg hq, if_neg (by decide), if_neg (by decide), if_neg (by decide), if_neg (by decide), if_pos rfl]
          exact e
        · rw [e]
          have hs : ∀ t, sN M ≤ t → t < 8 → bt (M.1 4 0 3) t = false := fun t h1 h2 => by
            rw [hN.1]
            cases hb : bt (M.1 65 0 24) t with
            | false => rfl
            | true => exact absurd (air_lt hB hb) (by omega)
          refine xq (d + 1) ok_Now_worthOf (c_worthOf E d M hR hN _ hs) (by omega) ?_
          refine x_cans E _ _ (by omega) (cq_ye ?_)
          have e : qAbout M (nI 5) = ye (aWr (M.1 65 0) (M.1 65 0 24) (sN M)) := by unfold qAbout; rw [if_neg hq, if_neg (by decide), if_neg (by decide), if_neg (by decide), if_neg (by decide), if_neg (by decide), if_pos rfl]
          refine e.trans ?_
          rw [hN.1]
        · rw [e]
          refine x_cans E _ _ (by omega) (cq_ye ?_)
          have e : qAbout M (nI 6) = ye (M.1 65 0 25) := by unfold qAbout; rw [if_neg hq, if_neg (by decide), if_neg (by decide), if_neg (by decide), if_neg (by decide), if_neg (by decide), if_neg (by decide), if_pos rfl]
          refine e.trans ?_
          rw [← hN.2.1]
        · rw [e]
          refine xq (d + 1) ok_Now_greatestChannel (c_greatestChannel E d M hR hB hN) (by omega) ?_
          refine x_cans E _ _ (by omega) (cq_ye ?_)
          have e : qAbout M (nI 7) = ye (aTop (M.1 65 0) (sN M)) := by unfold qAbout; rw [if_neg hq, if_neg (by decide), if_neg (by decide), if_neg (by decide), if_neg (by decide), if_neg (by decide), if_neg (by decide), if_neg (by decide), if_pos rfl]
          exact e
      · refine bad ?_
        have hne : ∀ j, j < 9 → ¬ nI k = nI j := fun j hj e => by
          have := (nI_eq hk (by omega)).mp e
          omega
        unfold qAbout
        rw [if_neg hq, if_neg (hne 0 (by omega)), if_neg (hne 1 (by omega)), if_neg (hne 2 (by omega)), if_neg (hne 3 (by omega)), if_neg (hne 4 (by omega)), if_neg (hne 5 (by omega)), if_neg (hne 6 (by omega)), if_neg (hne 7 (by omega)), if_neg (hne 8 (by omega))]
theorem c_lower (h : CI M) (x : Int32) : Mt E (d + 5) m_CS_lower [vP 0 0, vI x] M (CQ M (qLower M x)) := by
  obtain ⟨⟨hR, -⟩, hB, hx, hW, hN, -⟩ := id h
  have h8 := hR.2.1.2
  refine Mt.go ok_CS_lower [29] 60 rfl ?_
  refine xq d ok_CS_isStation (c_isStation E d M h x) (by omega) ?_
  refine brN (fun q => ?_) (fun q => ?_)
  · obtain ⟨s, hs, rfl⟩ := aSt_at hR q
    obtain ⟨o1, o2, o3⟩ := hR.2.2.2 s hs
    have e : qLower M (nI s) = ye (low (aMay M s) 1 (oN M s - 1)) := by unfold qLower; rw [if_neg (by rw [q]; decide), tN_nI (by omega)]
    rw [e]
    refine xq (d + 4) ok_Now_freeChannels (c_freeChannels E d M hR hB hW hN s hs) (by omega) ?_
    have hcn := hR.1.2
    have hch : M.1 5 0 s = nI (oN M s) := by rw [(hN.2.2 s hs).1, o1]
    have key : ∀ c, c ≤ oN M s → 1 ≤ c → low (aMay M s) 1 (oN M s - 1) = low (aMay M s) c (oN M s - c) → Wp E (d + 5) m_CS_lower 29 [some (vP 0 0), some (vI (nI s)), some (vI (S32 (fun i => decide (i < cN M) && aMay M s (i + 1)))), some (vI (nI c))] [] M (CQ M (ye (low (aMay M s) 1 (oN M s - 1)))) := by
      refine loopUp (oN M s) ?_ ?_
      · intro _ e
        refine go ok_CS_lower [29] 60 ?_
        refine ix s (show _ < 8 by omega) rfl ?_
        refine qLe hch rfl (by omega) (by omega) (fun _ => ?_) (fun q => absurd q (by omega))
        refine x_cans E _ _ (by omega) ?_
        rw [e, Nat.sub_self]
        exact And.intro rfl rfl
      · intro c hc ih h1 e
        refine go ok_CS_lower [29] 60 ?_
        refine ix s (show _ < 8 by omega) rfl ?_
        refine qLe hch rfl (by omega) (by omega) (fun q => absurd q (by omega)) (fun _ => ?_)
        refine xq d ok_CS_channelBit (c_channelBit E d M c h1) (by omega) ?_
        rw [show oN M s - c = (oN M s - (c + 1)) + 1 by omega, low] at e
        have hbit : bt (S32 (fun i => decide (i < cN M) && aMay M s (i + 1))) (c - 1) = aMay M s c := by
          rw [S32_at (by omega), show c - 1 + 1 = c by omega]
          by_cases w : c - 1 < cN M
          · rw [decide_eq_true w]; rfl
          · rw [decide_eq_false w]
            have : aMay M s c = false := by
              unfold aMay aLst lstK
              rw [decide_eq_false w]; rfl
            rw [this]; rfl
        refine And.intro (fun w => ?_) (fun w => ?_)
        · have w := (and_b1 (show c - 1 < 32 by omega)).mp w
          rw [hbit] at w
          rw [w] at e
          exact nm_r (nI_add _ _) (ih (by omega) e)
        · have w : aMay M s c = true := by
            cases hz : aMay M s c with
            | true => rfl
            | false => exact absurd ((and_b1 (show c - 1 < 32 by omega)).mpr (by rw [hbit]; exact hz)) w
          rw [w] at e
          refine x_cans E _ _ (by omega) ?_
          rw [e]
          exact And.intro rfl rfl
    exact key 1 o2 (Nat.le_refl _) rfl
  · refine x_cref E _ (nI 1) (by omega) ?_
    have e : qLower M x = no 1 := by unfold qLower; rw [if_pos q]
    rw [e]; exact And.intro rfl rfl
theorem c_islandOf {p : Nat} (hR : RW M) (hW : CWp M p) (s : Nat) (hs : s < sN M) (am : Int32) (ha : am = M.1 65 0 24) : Mt E (d + 1) m_Plan_islandOf [vP 30 p, vI (nI s), vI am] M (RP (vI (isl (aS M) (aClash M) (sN M) s)) M) := by
  have h8 := hR.2.1.2
  have hc : M.1 31 p 5 = nI (sN M) := by rw [hW.1.2.1, hR.2.1.1]
  rw [← island_eq h8 hs (fun t => M.1 46 p t) (fun t ht => (hW.2.1 t (by omega)).1)]
  subst ha
  generalize hcl : (fun t => M.1 46 p t) = cl
  have outer : ∀ k, k ≤ 8 → ∀ x, x = rnds cl (M.1 65 0 24) (sN M) k (b1 s) → ∀ j5, Wp E (d + 1) m_Plan_islandOf 8 [some (vP 30 p), some (vI (nI s)), some (vI (M.1 65 0 24)), some (vI x), some (vI (nI k)), j5] [] M (RP (vI (rnds cl (M.1 65 0 24) (sN M) 8 (b1 s))) M) := by
    refine loopUp 8 ?_ ?_
    · rintro x rfl j5
      refine go ok_Plan_islandOf [8] 60 ?_
      refine cLe (by omega) (by omega) (fun _ => ?_) (fun q => absurd q (by omega))
      exact And.intro rfl rfl
    · rintro k hk ih x hx j5
      have inner : ∀ t, t ≤ sN M → ∀ y, y = swp cl (M.1 65 0 24) t x → Wp E (d + 1) m_Plan_islandOf 18 [some (vP 30 p), some (vI (nI s)), some (vI (M.1 65 0 24)), some (vI y), some (vI (nI k)), some (vI (nI t))] [] M (RP (vI (rnds cl (M.1 65 0 24) (sN M) 8 (b1 s))) M) := by
        refine loopUp (sN M) ?_ ?_
        · rintro y rfl
          refine go ok_Plan_islandOf [8] 60 ?_
          refine qLe hc rfl (by omega) (by omega) (fun _ => ?_) (fun q => absurd q (by omega))
          refine nm_r (nI_add _ _) (ih _ ?_ _)
          rw [hx]; rfl
        · rintro t ht ih2 y rfl
          refine go ok_Plan_islandOf [18] 60 ?_
          refine qLe hc rfl (by omega) (by omega) (fun q => absurd q (by omega)) (fun _ => ?_)
          refine xq d ok_CS_has (c_has E d M _ t (by omega)) (by omega) ?_
          refine brF (fun q => ?_) (fun q => ?_)
          · refine nm_r (nI_add _ _) (ih2 _ ?_)
            rw [swp, q]; rfl
          · refine ix t (show _ < 8 by omega) rfl ?_
            have ec : M.1 46 p t = cl t := by rw [← hcl]
            refine And.intro (fun w => ?_) (fun w => ?_)
            · have w : M.1 46 p t &&& swp cl (M.1 65 0 24) t x = nI 0 := w
              rw [ec] at w
              refine nm_r (nI_add _ _) (ih2 _ ?_)
              rw [swp, q, decide_eq_true w]; rfl
            · have w : ¬ M.1 46 p t &&& swp cl (M.1 65 0 24) t x = nI 0 := w
              rw [ec] at w
              refine xq d ok_CS_bit (c_bit E d M t) (by omega) ?_
              refine nm_r (nI_add _ _) (ih2 _ ?_)
              rw [swp, q, decide_eq_false w]; rfl
      refine go ok_Plan_islandOf [18] 60 ?_
      refine cLe (by omega) (by omega) (fun q => absurd q (by omega)) (fun _ => ?_)
      exact inner 0 (Nat.zero_le _) _ rfl
  refine Mt.go ok_Plan_islandOf [8] 60 rfl ?_
  refine xq d ok_CS_bit (c_bit E d M s) (by omega) ?_
  exact outer 0 (by omega) _ rfl _
end C3
