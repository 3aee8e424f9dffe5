/-! the reference: station, border, near, on, free, lower, heard, and what it tells at once -/
def in3 (y : Int32) (b : Nat) : Bool := decide (nI 0 ≤ y) && decide (y ≤ nI b)
theorem in3_at {y : Int32} {b : Nat} (hb : b < 2 ^ 31) (h : in3 y b = true) : ∃ k, k ≤ b ∧ y = nI k := by
  simp only [in3, Bool.and_eq_true, decide_eq_true_eq] at h
  obtain ⟨k, hk, rfl⟩ := nneg h.1
  exact ⟨k, (nI_leI hk hb).mp h.2, rfl⟩
theorem or0 (x : Int32) : x ||| nI 0 = x := b_ext fun i _ => by rw [b_or, b_0, Bool.or_false]
def qBorder (M : Me) (x y : Int32) : AT := if (hT M && (decide (nI 0 ≤ x) && decide (x ≤ nI (bN M) - nI 1))) = false then no 1 else if in3 y 4 = false then no 1 else if y < nI 3 then ye (M.1 62 0 (3 * (8 + tN x) + tN y)) else if y = nI 3 then ye (M.1 63 0 (tN x)) else ye (S32 (fun s => decide (s < sN M) && aCnt M (tN x) s))
def qNear (M : Me) (x y : Int32) : AT := if aSt M x = false then no 1 else if in3 y 2 = false then no 1 else if y = nI 2 then ye (bif aOn M (tN x) then S32 (aDsb M (tN x) (oN M (tN x))) else nI 0) else if y = nI 0 then ye (S32 (fun t => decide (t < sN M) && (!decide (t = tN x) && aClash M (tN x) t))) else ye (S32 (fun t => decide (t < sN M) && (!decide (t = tN x) && aBrush M (tN x) t)))
def qOn (M : Me) (x : Int32) : AT := if hT M = false then no 1 else if aCh M x = false then no 2 else ye (S32 (fun s => decide (s < sN M) && (aOn M s && decide (oN M s = tN x))))
def qFree (M : Me) (x : Int32) : AT := if aSt M x = false then no 1 else ye (S32 (fun i => decide (i < cN M) && aMay M (tN x) (i + 1)))
def low (f : Nat → Bool) : Nat → Nat → Int32
  | _, 0 => nI 0
  | c, n + 1 => bif f c then nI c else low f (c + 1) n
def qLower (M : Me) (x : Int32) : AT := if aSt M x = false then no 1 else ye (low (aMay M (tN x)) 1 (oN M (tN x) - 1))
def hrd (M : Me) (x y : Int32) (s : Nat) : Bool := aOn M s && decide ((M.1 62 0 (3 * s) - x) * (M.1 62 0 (3 * s) - x) + (M.1 62 0 (3 * s + 1) - y) * (M.1 62 0 (3 * s + 1) - y) ≤ aRch M s * aRch M s)
def hOnce (f : Nat → Bool) (o : Nat → Nat) : Nat → Int32
  | 0 => nI 0
  | n + 1 => bif f n then hOnce f o n ||| b1 (o n - 1) else hOnce f o n
def hTwice (f : Nat → Bool) (o : Nat → Nat) : Nat → Int32
  | 0 => nI 0
  | n + 1 => bif f n then hTwice f o n ||| (hOnce f o n &&& b1 (o n - 1)) else hTwice f o n
def qHeard (M : Me) (x y z : Int32) : AT := if (hT M && in3 z 2) = false then no 1 else if (in3 x 99 && in3 y 99) = false then no 2 else if z = nI 0 then ye (mkS (hrd M x y) (sN M)) else if z = nI 1 then ye (hOnce (hrd M x y) (oN M) (sN M) &&& (hTwice (hrd M x y) (oN M) (sN M) ^^^ -(nI 1))) else ye (hTwice (hrd M x y) (oN M) (sN M))
section R4
variable (E : EV) (d : Nat) (M : Me)
theorem r_fault : Mt E d m_Mo_fault [vP 60 0] M (fun r M' => r = some (vI (M.1 60 0 7)) ∧ M' = sI M 60 0 0 (nI 0)) := Mt.go ok_Mo_fault [] 30 rfl (And.intro rfl rfl)
theorem r_where : Mt E d m_Mo_where [vP 60 0] M (fun r M' => r = some (vI (M.1 60 0 2)) ∧ M' = sI M 60 0 0 (nI 0)) := Mt.go ok_Mo_where [] 30 rfl (And.intro rfl rfl)
theorem r_bytes : Mt E d m_Mo_bytes [vP 60 0] M (fun r M' => r = some (vI (M.1 60 0 4)) ∧ M' = sI M 60 0 0 (nI 0)) := Mt.go ok_Mo_bytes [] 30 rfl (And.intro rfl rfl)
theorem r_trouble : Mt E d m_Mo_trouble [vP 60 0] M (fun r M' => r = some (vI (M.1 60 0 1)) ∧ M' = sI M 60 0 0 (nI 0)) := Mt.go ok_Mo_trouble [] 30 rfl (And.intro rfl rfl)
theorem r_thrown : Mt E d m_Mo_thrown [vP 60 0] M (RP (vI (M.1 60 0 0)) M) := Mt.go ok_Mo_thrown [] 30 rfl (And.intro rfl rfl)
theorem r_station (hX : RX M) (x y : Int32) : Mt E (d + 3) m_Mo_station [vP 60 0, vI x, vI y] M (RQ M (qStation M x y)) := by
  refine Mt.go ok_Mo_station [] 60 rfl ?_
  have hn := hX.1.2.1.2
  have hX0 : RX (sI M 60 0 0 (nI 0)) := hX
  refine xq (d + 1) ok_Mo_isStation (r_isStation E d _ hX0 x) (by omega) ?_
  refine brF (fun h1 => ?_) (fun h1 => ?_)
  · have h1 : aSt M x = false := h1
    refine x_ref E _ (nI 1) (by omega) ?_
    have e : qStation M x y = no 1 := by unfold qStation; rw [if_pos h1]
    rw [e]; exact And.intro rfl rfl
  · have h1 : aSt M x = true := h1
    refine xq d ok_Mo_in (r_in E d _ _ _ _) (by omega) ?_
    obtain ⟨s, hs, rfl⟩ := aSt_at hX.1 h1
    have ht : tN (nI s) = s := tN_nI (by omega)
    have e0 : qStation M (nI s) y = if y = nI 0 then ye (M.1 62 0 (3 * s)) else if y = nI 1 then ye (M.1 62 0 (3 * s + 1)) else if y = nI 2 then ye (M.1 62 0 (3 * s + 2)) else if y = nI 3 then ye (M.1 65 0 s) else if y = nI 4 then ye (M.1 65 0 (8 + s)) else if y = nI 5 then ye (bI (aOn M s)) else if y = nI 6 then ye (S32 (aLst M s)) else if y = nI 7 then ye (M.1 65 0 (16 + s)) else no 1 := by
      unfold qStation; rw [if_neg (by rw [h1]; decide), ht]
    refine brN (fun h2 => ?_) (fun h2 => ?_)
    · obtain ⟨k, hk, rfl⟩ := in3_at (b := 7) (by omega) h2
      refine And.intro (fun h => ?_) ?_
      · have hk3 : k < 3 := by
          rcases h with h | h
          · exact (nI_ltI (by omega) (by omega)).mp h
          · have := (nI_ltI (by omega) (by omega)).mp h; omega
        refine ix (3 * s + k) (show _ < 72 by omega) (by rw [nI_mul, nI_s8]) ?_
        refine x_good E _ _ (by omega) ?_
        rw [e0]
        match k, hk3 with
        | 0, _ => exact And.intro rfl rfl
        | 1, _ => exact And.intro rfl rfl
        | 2, _ => exact And.intro rfl rfl
      · refine And.intro (fun e => ?_) (And.intro (fun e => ?_) (And.intro (fun e => ?_) (And.intro (fun e => ?_) (And.intro (fun e => ?_) trivial))))
        · refine ix s (show _ < 26 by omega) (by rw [nI_s8, Nat.zero_add]) ?_
          refine x_good E _ _ (by omega) ?_
          rw [e0, e]; exact And.intro rfl rfl
        · refine ix (8 + s) (show _ < 26 by omega) (nI_s8 8 s) ?_
          refine x_good E _ _ (by omega) ?_
          rw [e0, e]; exact And.intro rfl rfl
        · refine ix 24 (show _ < 26 by omega) rfl ?_
          refine x_good E _ _ (by omega) ?_
          rw [e0, e]
          exact And.intro (by rw [hasL _ (show s < 32 by omega)]; rfl) rfl
        · refine xq (d + 2) ok_Mo_list (r_list E d _ hX0.1 s (by omega)) (by omega) ?_
          refine x_good E _ _ (by omega) ?_
          rw [e0, e]; exact And.intro rfl rfl
        · refine ix (16 + s) (show _ < 26 by omega) (nI_s8 16 s) ?_
          refine x_good E _ _ (by omega) ?_
          rw [e0, e]; exact And.intro rfl rfl
    · refine x_ref E _ (nI 1) (by omega) ?_
      have hne : ∀ j, j ≤ 7 → ¬ y = nI j := by
        intro j hj e
        subst e
        have : in3 (nI j) 7 = true := by
          unfold in3
          rw [decide_eq_true ((nI_leI (by omega) (by omega)).mpr (Nat.zero_le j)), decide_eq_true ((nI_leI (by omega) (by omega)).mpr hj)]; rfl
        rw [show in3 (nI j) 7 = false from h2] at this
        cases this
      rw [e0, if_neg (hne 0 (by omega)), if_neg (hne 1 (by omega)), if_neg (hne 2 (by omega)), if_neg (hne 3 (by omega)), if_neg (hne 4 (by omega)), if_neg (hne 5 (by omega)), if_neg (hne 6 (by omega)), if_neg (hne 7 (by omega))]
      exact And.intro rfl rfl
theorem r_on (hX : RX M) (x : Int32) : Mt E (d + 2) m_Mo_on [vP 60 0, vI x] M (RQ M (qOn M x)) := by
  obtain ⟨hR, hx⟩ := id hX
  obtain ⟨⟨hc, hc'⟩, ⟨hn, hn'⟩, ⟨hb, hb'⟩, ho⟩ := id hR
  have hR0 : RW (sI M 60 0 0 (nI 0)) := hR
  refine Mt.go ok_Mo_on [36] 60 rfl ?_
  refine qN hx (fun h => ?_) (fun h => ?_)
  · refine xq (d + 1) ok_Mo_isChannel (r_isChannel E d _ hR0 x) (by omega) ?_
    refine brN (fun h1 => ?_) (fun h1 => ?_)
    · have h1 : aCh M x = true := h1
      obtain ⟨c, hc1, hc2, rfl⟩ := aCh_at hR h1
      have e0 : qOn M (nI c) = ye (S32 (fun s => decide (s < sN M) && (aOn M s && decide (oN M s = c)))) := by
        unfold qOn; rw [if_neg (by rw [h]; decide), if_neg (by rw [h1]; decide), tN_nI (by omega)]
      rw [e0]
      generalize hf : (fun s => decide (s < sN M) && (aOn M s && decide (oN M s = c))) = f
      have key : ∀ t, t ≤ sN M → ∀ z, z = mkS f t → Wp E (d + 2) m_Mo_on 36 [some (vP 60 0), some (vI (nI c)), some (vI z), some (vI (nI t))] [] (sI M 60 0 0 (nI 0)) (RQ M (ye (S32 f))) := by
        refine loopUp (sN M) ?_ ?_
        · intro z hz
          refine go ok_Mo_on [36] 60 ?_
          refine qLe hn rfl (by omega) (by omega) (fun _ => ?_) (fun c => absurd c (by omega))
          refine x_good E _ _ (by omega) ?_
          rw [hz, mkS_full (by omega) (fun i hi => by rw [← hf] at hi; simp only [Bool.and_eq_true, decide_eq_true_eq] at hi; exact hi.1)]
          exact And.intro rfl rfl
        · intro t hlt ih z hz
          obtain ⟨ho1, ho2, ho3⟩ := ho t hlt
          have hft : f t = (aOn M t && decide (oN M t = c)) := by rw [← hf]; simp only [decide_eq_true hlt, Bool.true_and]
          refine go ok_Mo_on [36] 60 ?_
          refine qLe hn rfl (by omega) (by omega) (fun h => absurd h (by omega)) (fun _ => ?_)
          refine xq (d + 1) ok_Mo_isOn (r_isOn E d _ t (by omega)) (by omega) ?_
          refine brF (fun h1 => ?_) (fun h1 => ?_)
          · have h1 : aOn M t = false := h1
            refine nm_r (nI_add _ _) (ih _ ?_)
            rw [hz, or0, mkS, hft, h1]; rfl
          · have h1 : aOn M t = true := h1
            refine ix t (show _ < 26 by omega) (by rw [nI_s8, Nat.zero_add]) ?_
            refine qNe ho1 rfl (by omega) (by omega) (fun q => ?_) (fun q => ?_)
            · refine nm_r (nI_add _ _) (ih _ ?_)
              rw [hz, or0, mkS, hft, h1, decide_eq_false q]; rfl
            · refine nm_r (nI_add _ _) (ih _ ?_)
              rw [hz, mkS, hft, h1, decide_eq_true q]; rfl
      exact key 0 (Nat.zero_le _) _ rfl
    · have h1 : aCh M x = false := h1
      refine x_ref E _ (nI 2) (by omega) ?_
      have e : qOn M x = no 2 := by unfold qOn; rw [if_neg (by rw [h]; decide), if_pos h1]
      rw [e]; exact And.intro rfl rfl
  · refine x_ref E _ (nI 1) (by omega) ?_
    have e : qOn M x = no 1 := by unfold qOn; rw [if_pos h]
    rw [e]; exact And.intro rfl rfl
theorem r_free (hX : RX M) (x : Int32) : Mt E (d + 4) m_Mo_free [vP 60 0, vI x] M (RQ M (qFree M x)) := by
  obtain ⟨hR, hx⟩ := id hX
  obtain ⟨⟨hc, hc'⟩, ⟨hn, hn'⟩, ⟨hb, hb'⟩, ho⟩ := id hR
  have hX0 : RX (sI M 60 0 0 (nI 0)) := hX
  refine Mt.go ok_Mo_free [23] 60 rfl ?_
  refine xq (d + 1) ok_Mo_isStation (r_isStation E d _ hX0 x) (by omega) ?_
  refine brN (fun h1 => ?_) (fun h1 => ?_)
  · have h1 : aSt M x = true := h1
    obtain ⟨s, hs, rfl⟩ := aSt_at hR h1
    have e0 : qFree M (nI s) = ye (S32 (fun i => decide (i < cN M) && aMay M s (i + 1))) := by unfold qFree; rw [if_neg (by rw [h1]; decide), tN_nI (by omega)]
    rw [e0]
    generalize hf : (fun i => decide (i < cN M) && aMay M s (i + 1)) = f
    have key : ∀ t, t ≤ cN M → ∀ z, z = mkS f t → Wp E (d + 4) m_Mo_free 23 [some (vP 60 0), some (vI (nI s)), some (vI z), some (vI (nI (t + 1)))] [] (sI M 60 0 0 (nI 0)) (RQ M (ye (S32 f))) := by
      refine loopUp (cN M) ?_ ?_
      · intro z hz
        refine go ok_Mo_free [23] 60 ?_
        refine qLt hc rfl (by omega) (by omega) (fun _ => ?_) (fun c => absurd c (by omega))
        refine x_good E _ _ (by omega) ?_
        rw [hz, mkS_full (by omega) (fun i hi => by rw [← hf] at hi; simp only [Bool.and_eq_true, decide_eq_true_eq] at hi; exact hi.1)]
        exact And.intro rfl rfl
      · intro t hlt ih z hz
        have hft : f t = (aLst M s t && noDsb M s (t + 1)) := by rw [← hf]; simp only [decide_eq_true hlt, Bool.true_and]; rfl
        refine go ok_Mo_free [23] 60 ?_
        refine qLt hc rfl (by omega) (by omega) (fun h => absurd h (by omega)) (fun _ => ?_)
        refine xq (d + 2) ok_Mo_list (r_list E d _ hX0.1 s (by omega)) (by omega) ?_
        refine xq d ok_Mo_has (by rw [nI_sub1]; exact r_has E d _ _ t (by omega)) (by omega) ?_
        rw [S32_at (by omega)]
        refine brF (fun h1 => ?_) (fun h1 => ?_)
        · have h1 : aLst M s t = false := h1
          refine nm_r (nI_add _ _) (ih _ ?_)
          rw [hz, or0, mkS, hft, h1]; rfl
        · have h1 : aLst M s t = true := h1
          refine xq (d + 3) ok_Mo_disturbers (r_disturbers E d _ hX0.1 s (t + 1) (by omega) (by omega)) (by omega) ?_
          refine And.intro (fun q => ?_) (fun q => ?_)
          · refine nm_r (nI_add _ _) (ih _ ?_)
            have hz2 : noDsb M s (t + 1) = false := by
              cases hz2 : noDsb M s (t + 1) with
              | false => rfl
              | true => exact absurd ((noDsb_iff M hR _ _).mpr hz2) q
            rw [hz, or0, mkS, hft, h1, hz2]; rfl
          · refine nm_r (nI_add _ _) (ih _ ?_)
            have hz2 : noDsb M s (t + 1) = true := (noDsb_iff M hR _ _).mp q
            rw [hz, mkS, hft, h1, hz2, nI_sub1]; rfl
    exact key 0 (Nat.zero_le _) _ rfl
  · have h1 : aSt M x = false := h1
    refine x_ref E _ (nI 1) (by omega) ?_
    have e : qFree M x = no 1 := by unfold qFree; rw [if_pos h1]
    rw [e]; exact And.intro rfl rfl
theorem r_lower (hX : RX M) (x : Int32) : Mt E (d + 5) m_Mo_lower [vP 60 0, vI x] M (RQ M (qLower M x)) := by
  obtain ⟨hR, hx⟩ := id hX
  obtain ⟨⟨hc, hc'⟩, ⟨hn, hn'⟩, ⟨hb, hb'⟩, ho⟩ := id hR
  have hX0 : RX (sI M 60 0 0 (nI 0)) := hX
  refine Mt.go ok_Mo_lower [21] 60 rfl ?_
  refine xq (d + 1) ok_Mo_isStation (r_isStation E d _ hX0 x) (by omega) ?_
  refine brN (fun h1 => ?_) (fun h1 => ?_)
  · have h1 : aSt M x = true := h1
    obtain ⟨s, hs, rfl⟩ := aSt_at hR h1
    obtain ⟨ho1, ho2, ho3⟩ := ho s hs
    have e0 : qLower M (nI s) = ye (low (aMay M s) 1 (oN M s - 1)) := by unfold qLower; rw [if_neg (by rw [h1]; decide), tN_nI (by omega)]
    rw [e0]
    have key : ∀ k, k ≤ oN M s - 1 → low (aMay M s) 1 (oN M s - 1) = low (aMay M s) (k + 1) (oN M s - 1 - k) → Wp E (d + 5) m_Mo_lower 21 [some (vP 60 0), some (vI (nI s)), some (vI (nI (k + 1)))] [] (sI M 60 0 0 (nI 0)) (RQ M (ye (low (aMay M s) 1 (oN M s - 1)))) := by
      refine loopUp (oN M s - 1) ?_ ?_
      · intro hl
        refine go ok_Mo_lower [21] 60 ?_
        refine ix s (show _ < 26 by omega) (by rw [nI_s8, Nat.zero_add]) ?_
        refine qLe ho1 rfl (by omega) (by omega) (fun _ => ?_) (fun c => absurd c (by omega))
        refine x_good E _ _ (by omega) ?_
        rw [hl, Nat.sub_self, low]
        exact And.intro rfl rfl
      · intro k hlt ih hl
        refine go ok_Mo_lower [21] 60 ?_
        refine ix s (show _ < 26 by omega) (by rw [nI_s8, Nat.zero_add]) ?_
        refine qLe ho1 rfl (by omega) (by omega) (fun h => absurd h (by omega)) (fun _ => ?_)
        refine xq (d + 4) ok_Mo_mayBe (r_mayBe E d _ hX0.1 s (k + 1) (by omega) (by omega) (by omega)) (by omega) ?_
        have e1 : oN M s - 1 - k = (oN M s - 1 - (k + 1)) + 1 := by omega
        refine brF (fun h2 => ?_) (fun h2 => ?_)
        · have h2 : aMay M s (k + 1) = false := h2
          refine nm_r (nI_add _ _) (ih ?_)
          rw [hl, e1, low, h2]; rfl
        · have h2 : aMay M s (k + 1) = true := h2
          refine x_good E _ _ (by omega) ?_
          rw [hl, e1, low, h2]
          exact And.intro rfl rfl
    exact key 0 (Nat.zero_le _) rfl
  · have h1 : aSt M x = false := h1
    refine x_ref E _ (nI 1) (by omega) ?_
    have e : qLower M x = no 1 := by unfold qLower; rw [if_pos h1]
    rw [e]; exact And.intro rfl rfl
end R4
