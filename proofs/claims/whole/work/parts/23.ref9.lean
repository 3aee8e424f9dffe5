/-! the reference: isFit, and what asks it -/
def aX (M : Me) (set : Int32) (m : Nat) : List (Nat → Nat) := exr (bt set) (aLst M) (aDist M) m (sN M) (sN M) 0 (fun _ => 0)
def aFit (M : Me) (set : Int32) (m : Nat) : Bool := !(aX M set m).isEmpty
theorem aX_ag {M M' : Me} (h : AgR M M') (set : Int32) (m : Nat) : aX M' set m = aX M set m := by unfold aX; rw [agL h, agD h, agS h]
theorem aFit_ag {M M' : Me} (h : AgR M M') (set : Int32) (m : Nat) : aFit M' set m = aFit M set m := by unfold aFit; rw [aX_ag h]
def RRe (M : Me) : Prop := ∃ ρ, RR M ρ
theorem RRe_o {M M' : Me} (h : RRe M) (e : M'.1 70 = M.1 70) : RRe M' := by
  obtain ⟨ρ, h⟩ := h
  exact ⟨ρ, fun t ht => by rw [e]; exact h t ht⟩
/-- behind a question with a search: answer, trouble; scratch is free -/
abbrev RQs (M : Me) (p : AT) : Option AV → Me → Prop := fun r M' => r = some (vI p.1) ∧ AgR M M' ∧ RRe M' ∧ M'.1 60 0 0 = nI 0 ∧ M'.1 60 0 1 = p.2 ∧ M'.1 60 0 2 = -(nI 1)
def tWhy (M : Me) (x y : Int32) : Nat := bif !hT M then 1 else bif aSet M x && aCh M y then 0 else 2
def tWhyOf (M : Me) (x y z : Int32) : Nat := bif !aSt M z then 1 else bif aSet M x && aCh M y && bt x (tN z) then 0 else 2
def qFits (M : Me) (x y : Int32) : AT := if tWhy M x y ≠ 0 then no (tWhy M x y) else ye (bI (aFit M x (tN y)))
def qRowOf (M : Me) (x y z : Int32) : AT := if tWhyOf M x y z ≠ 0 then no (tWhyOf M x y z) else match (aX M x (tN y)).head? with
  | some r => ye (nI (r (tN z)))
  | none => no 6
def qRows (M : Me) (x y : Int32) : AT := if tWhy M x y ≠ 0 then no (tWhy M x y) else ye (nI (min 999 (aX M x (tN y)).length))
def few (f : Nat → Bool) : Nat → Nat → Int32
  | _, 0 => -(nI 2)
  | c, n + 1 => bif f c then nI c else few f (c + 1) n
def qFewest (M : Me) (x : Int32) : AT := if tWhy M x (nI 1) ≠ 0 then no (tWhy M x (nI 1)) else if x = nI 0 then ye (nI 0) else ye (few (aFit M x) 1 (cN M))
theorem agM0 (M : Me) : AgR M (M0 M) := ag_sI rfl
theorem ag_fin {M N : Me} {t : Int32} (h : AgR M N) : AgR M (sI (sI N 60 0 1 t) 60 0 2 (-(nI 1))) := (h.tr (ag_sI rfl)).tr (ag_sI rfl)
/-- the two ends -/
theorem end_no {M N : Me} {p : AT} (t : Nat) (h : AgR M N) (hr : RRe N) (h0 : N.1 60 0 0 = nI 0) (e : p = no t) : RQs M p (some (vI (-(nI 1)))) (sI (sI N 60 0 1 (nI t)) 60 0 2 (-(nI 1))) := by
  subst e
  exact ⟨rfl, ag_fin h, hr, h0, rfl, rfl⟩
theorem end_ye {M N : Me} {p : AT} {v : Int32} (h : AgR M N) (hr : RRe N) (h0 : N.1 60 0 0 = nI 0) (e : p = ye v) : RQs M p (some (vI v)) (sI (sI N 60 0 1 (nI 0)) 60 0 2 (-(nI 1))) := by
  subst e
  exact ⟨rfl, ag_fin h, hr, h0, rfl, rfl⟩
section R10
variable (E : EV) (d : Nat) (M : Me)
theorem r_isFit (hR : RW M) (hr : RRe M) (set : Int32) (m : Nat) (hm : m ≤ 10) : Mt E (d + 13) m_Mo_isFit [vP 60 0, vI set, vI (nI m)] M (fun r M' => r = some (vI (bI (aFit M set m))) ∧ Ag2 M M' ∧ RRe M' ∧ ∀ x, (aX M set m).head? = some x → ∀ t, t < sN M → bt set t = true → M'.1 71 0 t = nI (x t)) := by
  obtain ⟨ρ, hr⟩ := hr
  have hn := hR.2.1.2
  refine Mt.go ok_Mo_isFit [] 60 rfl ?_
  have a1 : Ag2 M (sI (sI M 60 0 32 (nI 0)) 60 0 33 (nI 1)) := (ag2_sI rfl).tr (ag2_sI rfl)
  have aR := a1.R
  have eX : exr (bt set) (aLst (sI (sI M 60 0 32 (nI 0)) 60 0 33 (nI 1))) (aDist (sI (sI M 60 0 32 (nI 0)) 60 0 33 (nI 1))) m (sN (sI (sI M 60 0 32 (nI 0)) 60 0 33 (nI 1))) (sN M) 0 ρ = aX M set m := by
    unfold aX
    rw [agL aR, agD aR, agS aR]
    exact exr_cg _ _ _ _ (by omega) (fun t ht => absurd ht (by omega))
  refine xc (d + 4 + sN M) ok_Mo_rowsFrom (r_rowsFrom E d set m 1 hm (by omega) (by omega) (sN M) 0 (sI (sI M 60 0 32 (nI 0)) 60 0 33 (nI 1)) 0 ρ (Nat.zero_add _) (agRW aR hR) hr rfl rfl (by omega)) (by omega) ?_
  rintro r M' ⟨rfl, b1, b2, b3, ⟨ρ', b4, -⟩, b5, b6⟩
  rw [eX] at b3 b5
  have hfin : ∀ v, v = bI (aFit M set m) → (some (vI v) = some (vI (bI (aFit M set m))) ∧ Ag2 M M' ∧ RRe M' ∧ ∀ x, (aX M set m).head? = some x → ∀ t, t < sN M → bt set t = true → M'.1 71 0 t = nI (x t)) := by
    rintro v rfl
    refine ⟨rfl, a1.tr b1, ⟨ρ', b4⟩, fun x hx t ht hS => b5 rfl x hx t (by rw [agS aR]; exact ht) hS⟩
  cases hXl : aX M set m with
  | nil =>
    refine qLe b3 rfl (by omega) (by omega) (fun _ => And.intro (Or.inl rfl) ?_) (fun q => absurd q (by rw [hXl]; simp))
    refine hXl ▸ hfin _ ?_
    unfold aFit; rw [hXl]; rfl
  | cons x X =>
    refine qLe b3 rfl (by omega) (by omega) (fun q => absurd q (by rw [hXl]; simp only [List.length_cons]; omega)) (fun _ => And.intro (Or.inr rfl) ?_)
    refine hXl ▸ hfin _ ?_
    unfold aFit; rw [hXl]; rfl
theorem r_whyNot (hX : RX M) (x y : Int32) : Mt E (d + 2) m_Mo_whyNot [vP 60 0, vI x, vI y] M (RP (vI (nI (tWhy M x y))) M) := by
  refine Mt.go ok_Mo_whyNot [] 60 rfl ?_
  refine qN hX.2 (fun h => ?_) (fun h => ?_)
  · refine xq (d + 1) ok_Mo_isSet (r_isSet E d M hX.1 x) (by omega) ?_
    refine brF (fun h1 => ?_) (fun h1 => ?_)
    · refine And.intro ?_ rfl
      unfold tWhy; rw [h, h1]; rfl
    · refine xq (d + 1) ok_Mo_isChannel (r_isChannel E d M hX.1 y) (by omega) ?_
      refine brF (fun h2 => ?_) (fun h2 => ?_)
      · refine And.intro ?_ rfl
        unfold tWhy; rw [h, h1, h2]; rfl
      · refine And.intro ?_ rfl
        unfold tWhy; rw [h, h1, h2]; rfl
  · refine And.intro ?_ rfl
    unfold tWhy; rw [h]; rfl
theorem r_whyNotOf (hX : RX M) (x y z : Int32) : Mt E (d + 2) m_Mo_whyNotOf [vP 60 0, vI x, vI y, vI z] M (RP (vI (nI (tWhyOf M x y z))) M) := by
  refine Mt.go ok_Mo_whyNotOf [] 60 rfl ?_
  have hn := hX.1.2.1.2
  refine xq (d + 1) ok_Mo_isStation (r_isStation E d M hX z) (by omega) ?_
  refine brN (fun h => ?_) (fun h => ?_)
  · obtain ⟨s, hs, rfl⟩ := aSt_at hX.1 h
    have e1 : tN (nI s) = s := tN_nI (by omega)
    refine xq (d + 1) ok_Mo_isSet (r_isSet E d M hX.1 x) (by omega) ?_
    refine brF (fun h1 => ?_) (fun h1 => ?_)
    · refine And.intro ?_ rfl
      unfold tWhyOf; rw [h, h1]; rfl
    · refine xq (d + 1) ok_Mo_isChannel (r_isChannel E d M hX.1 y) (by omega) ?_
      refine brF (fun h2 => ?_) (fun h2 => ?_)
      · refine And.intro ?_ rfl
        unfold tWhyOf; rw [h, h1, h2]; rfl
      · refine xq d ok_Mo_has (r_has E d M x s (by omega)) (by omega) ?_
        refine brN (fun h3 => ?_) (fun h3 => ?_)
        · refine And.intro ?_ rfl
          unfold tWhyOf; rw [h, h1, h2, e1, h3]; rfl
        · refine And.intro ?_ rfl
          unfold tWhyOf; rw [h, h1, h2, e1, h3]; rfl
  · refine And.intro ?_ rfl
    unfold tWhyOf; rw [h]; rfl
theorem tWhy_le (x y : Int32) : tWhy M x y ≤ 2 := by
  unfold tWhy
  cases hT M <;> cases (aSet M x && aCh M y) <;> decide
theorem tWhyOf_le (x y z : Int32) : tWhyOf M x y z ≤ 2 := by
  unfold tWhyOf
  cases aSt M z <;> cases (aSet M x && aCh M y && bt x (tN z)) <;> decide
theorem tWhy_0 {x y : Int32} (h : tWhy M x y = 0) : hT M = true ∧ aSet M x = true ∧ aCh M y = true := by
  unfold tWhy at h
  cases h1 : hT M <;> cases h2 : aSet M x <;> cases h3 : aCh M y <;> rw [h1, h2, h3] at h <;> first | exact ⟨rfl, rfl, rfl⟩ | exact absurd h (by decide)
theorem tWhyOf_0 {x y z : Int32} (h : tWhyOf M x y z = 0) : aSt M z = true ∧ aSet M x = true ∧ aCh M y = true ∧ bt x (tN z) = true := by
  unfold tWhyOf at h
  cases h1 : aSt M z <;> cases h2 : aSet M x <;> cases h3 : aCh M y <;> cases h4 : bt x (tN z) <;> rw [h1, h2, h3, h4] at h <;> first | exact ⟨rfl, rfl, rfl, rfl⟩ | exact absurd h (by decide)
theorem r_fits (hX : RX M) (hr : RRe M) (x y : Int32) : Mt E (d + 14) m_Mo_fits [vP 60 0, vI x, vI y] M (RQs M (qFits M x y)) := by
  have hX0 : RX (M0 M) := hX
  refine Mt.go ok_Mo_fits [] 60 rfl ?_
  refine xq (d + 2) ok_Mo_whyNot (r_whyNot E d _ hX0 x y) (by omega) ?_
  have et : tWhy (M0 M) x y = tWhy M x y := rfl
  rw [et]
  have hle := tWhy_le M x y
  refine cLe (by omega) (by omega) (fun h => ?_) (fun h => ?_)
  · have h : tWhy M x y = 0 := by omega
    obtain ⟨w1, w2, w3⟩ := tWhy_0 M h
    obtain ⟨c, hc1, hc2, rfl⟩ := aCh_at hX.1 w3
    have hc3 := hX.1.1.2
    have e0 : qFits M x (nI c) = ye (bI (aFit M x c)) := by unfold qFits; rw [if_neg (by rw [h]; decide), tN_nI (by omega)]
    refine xc (d + 13) ok_Mo_isFit (r_isFit E d (M0 M) hX0.1 hr x c (by omega)) (by omega) ?_
    rintro r M' ⟨rfl, b1, b2, b3⟩
    have ag := (agM0 M).tr b1.R
    have h0 : M'.1 60 0 0 = nI 0 := b1.1 60 0 0 rfl
    have ef : aFit (M0 M) x c = aFit M x c := aFit_ag (agM0 M) x c
    rw [ef]
    refine brF (fun h2 => ?_) (fun h2 => ?_)
    · refine x_good E _ _ (by omega) (end_ye ag b2 h0 ?_)
      rw [e0, h2]; rfl
    · refine x_good E _ _ (by omega) (end_ye ag b2 h0 ?_)
      rw [e0, h2]; rfl
  · refine x_ref E _ _ (by omega) (end_no (tWhy M x y) (agM0 M) hr rfl ?_)
    unfold qFits; rw [if_pos (by omega)]
theorem r_rowOf (hX : RX M) (hr : RRe M) (x y z : Int32) : Mt E (d + 14) m_Mo_rowOf [vP 60 0, vI x, vI y, vI z] M (RQs M (qRowOf M x y z)) := by
  have hX0 : RX (M0 M) := hX
  have hn := hX.1.2.1.2
  refine Mt.go ok_Mo_rowOf [] 60 rfl ?_
  refine xq (d + 2) ok_Mo_whyNotOf (r_whyNotOf E d _ hX0 x y z) (by omega) ?_
  have et : tWhyOf (M0 M) x y z = tWhyOf M x y z := rfl
  rw [et]
  have hle := tWhyOf_le M x y z
  refine cLe (by omega) (by omega) (fun h => ?_) (fun h => ?_)
  · have h : tWhyOf M x y z = 0 := by omega
    obtain ⟨w1, w2, w3, w4⟩ := tWhyOf_0 M h
    obtain ⟨c, hc1, hc2, rfl⟩ := aCh_at hX.1 w3
    obtain ⟨s, hs, rfl⟩ := aSt_at hX.1 w1
    have hc3 := hX.1.1.2
    have e2 : tN (nI s) = s := tN_nI (by omega)
    rw [e2] at w4
    have e0 : qRowOf M x (nI c) (nI s) = match (aX M x c).head? with
      | some r => ye (nI (r s))
      | none => no 6 := by unfold qRowOf; rw [if_neg (by rw [h]; decide), tN_nI (by omega), e2]
    refine xc (d + 13) ok_Mo_isFit (r_isFit E d (M0 M) hX0.1 hr x c (by omega)) (by omega) ?_
    rintro r M' ⟨rfl, b1, b2, b3⟩
    have ag := (agM0 M).tr b1.R
    have h0 : M'.1 60 0 0 = nI 0 := b1.1 60 0 0 rfl
    have ef : aFit (M0 M) x c = aFit M x c := aFit_ag (agM0 M) x c
    have eX : aX (M0 M) x c = aX M x c := aX_ag (agM0 M) x c
    rw [ef]
    rw [eX] at b3
    refine brF (fun h2 => ?_) (fun h2 => ?_)
    · refine x_ref E _ _ (by omega) (end_no 6 ag b2 h0 ?_)
      rw [e0]
      unfold aFit at h2
      cases hl : aX M x c with
      | nil => rfl
      | cons a l => rw [hl] at h2; cases h2
    · refine ix s (show _ < 8 by omega) rfl ?_
      refine x_good E _ _ (by omega) (end_ye ag b2 h0 ?_)
      rw [e0]
      unfold aFit at h2
      cases hl : aX M x c with
      | nil => rw [hl] at h2; cases h2
      | cons a l =>
        rw [hl] at b3
        have := b3 a rfl s hs w4
        show ye (nI (a s)) = ye (M'.1 71 0 s)
        rw [this]
  · refine x_ref E _ _ (by omega) (end_no (tWhyOf M x y z) (agM0 M) hr rfl ?_)
    unfold qRowOf; rw [if_pos (by omega)]
theorem r_rows (hX : RX M) (hr : RRe M) (x y : Int32) : Mt E (d + 14) m_Mo_rows [vP 60 0, vI x, vI y] M (RQs M (qRows M x y)) := by
  have hX0 : RX (M0 M) := hX
  have hn := hX.1.2.1.2
  refine Mt.go ok_Mo_rows [] 60 rfl ?_
  refine xq (d + 2) ok_Mo_whyNot (r_whyNot E d _ hX0 x y) (by omega) ?_
  have et : tWhy (M0 M) x y = tWhy M x y := rfl
  rw [et]
  have hle := tWhy_le M x y
  refine cLe (by omega) (by omega) (fun h => ?_) (fun h => ?_)
  · have h : tWhy M x y = 0 := by omega
    obtain ⟨w1, w2, w3⟩ := tWhy_0 M h
    obtain ⟨c, hc1, hc2, rfl⟩ := aCh_at hX.1 w3
    have hc3 := hX.1.1.2
    have e0 : qRows M x (nI c) = ye (nI (min 999 (aX M x c).length)) := by unfold qRows; rw [if_neg (by rw [h]; decide), tN_nI (by omega)]
    obtain ⟨ρ, hr⟩ := hr
    have a1 : Ag2 (M0 M) (sI (sI (M0 M) 60 0 32 (nI 0)) 60 0 33 (nI 999)) := (ag2_sI rfl).tr (ag2_sI rfl)
    have aR := (agM0 M).tr a1.R
    have eX : exr (bt x) (aLst (sI (sI (M0 M) 60 0 32 (nI 0)) 60 0 33 (nI 999))) (aDist (sI (sI (M0 M) 60 0 32 (nI 0)) 60 0 33 (nI 999))) c (sN (sI (sI (M0 M) 60 0 32 (nI 0)) 60 0 33 (nI 999))) (sN M) 0 ρ = aX M x c := by
      unfold aX
      rw [agL aR, agD aR, agS aR]
      exact exr_cg _ _ _ _ (by omega) (fun t ht => absurd ht (by omega))
    refine xc (d + 4 + sN M) ok_Mo_rowsFrom (r_rowsFrom E d x c 999 (by omega) (by omega) (by omega) (sN M) 0 (sI (sI (M0 M) 60 0 32 (nI 0)) 60 0 33 (nI 999)) 0 ρ (Nat.zero_add _) (agRW aR hX.1) hr rfl rfl (by omega)) (by omega) ?_
    rintro r M' ⟨rfl, b1, b2, b3, ⟨ρ', b4, -⟩, b5, b6⟩
    rw [eX, Nat.zero_add] at b3
    refine x_good E _ _ (by omega) (end_ye (aR.tr b1.R) ⟨ρ', b4⟩ ?_ ?_)
    · rw [b1.1 60 0 0 rfl]; rfl
    · rw [e0, ← b3]
  · refine x_ref E _ _ (by omega) (end_no (tWhy M x y) (agM0 M) hr rfl ?_)
    unfold qRows; rw [if_pos (by omega)]
theorem r_fewest (hX : RX M) (hr : RRe M) (x : Int32) : Mt E (d + 14) m_Mo_fewest [vP 60 0, vI x] M (RQs M (qFewest M x)) := by
  have hX0 : RX (M0 M) := hX
  obtain ⟨⟨hc, hc'⟩, ⟨hn, hn'⟩, ⟨hb, hb'⟩, ho⟩ := id hX.1
  refine Mt.go ok_Mo_fewest [34] 60 rfl ?_
  refine xq (d + 2) ok_Mo_whyNot (r_whyNot E d _ hX0 x (nI 1)) (by omega) ?_
  have et : tWhy (M0 M) x (nI 1) = tWhy M x (nI 1) := rfl
  rw [et]
  have hle := tWhy_le M x (nI 1)
  refine cLe (by omega) (by omega) (fun h => ?_) (fun h => ?_)
  · have h : tWhy M x (nI 1) = 0 := by omega
    refine And.intro (fun hx => ?_) (fun hx => ?_)
    · have e0 : qFewest M x = ye (few (aFit M x) 1 (cN M)) := by unfold qFewest; rw [if_neg (by rw [h]; decide), if_neg hx]
      have key : ∀ k, k ≤ cN M → ∀ N, AgR M N → RRe N → N.1 60 0 0 = nI 0 → few (aFit M x) 1 (cN M) = few (aFit M x) (k + 1) (cN M - k) → Wp E (d + 14) m_Mo_fewest 34 [some (vP 60 0), some (vI x), some (vI (nI 0)), some (vI (nI (k + 1)))] [] N (RQs M (qFewest M x)) := by
        refine loopUp (cN M) ?_ ?_
        · intro N ag hrN h0 hf
          refine go ok_Mo_fewest [34] 60 ?_
          refine qLt ((ag.1 60 0 17 rfl).trans hc) rfl (by omega) (by omega) (fun _ => ?_) (fun q => absurd q (by omega))
          refine x_good E _ _ (by omega) (end_ye ag hrN h0 ?_)
          rw [e0, hf, Nat.sub_self]; rfl
        · intro k hlt ih N ag hrN h0 hf
          refine go ok_Mo_fewest [34] 60 ?_
          refine qLt ((ag.1 60 0 17 rfl).trans hc) rfl (by omega) (by omega) (fun q => absurd q (by omega)) (fun _ => ?_)
          refine xc (d + 13) ok_Mo_isFit (r_isFit E d N (agRW ag hX.1) hrN x (k + 1) (by omega)) (by omega) ?_
          rintro r M' ⟨rfl, b1, b2, b3⟩
          rw [aFit_ag ag]
          have e1 : cN M - k = (cN M - (k + 1)) + 1 := by omega
          refine brF (fun h2 => ?_) (fun h2 => ?_)
          · refine nm_r (nI_add _ _) (ih M' (ag.tr b1.R) b2 ((b1.1 60 0 0 rfl).trans h0) ?_)
            rw [hf, e1, few, h2]; rfl
          · refine x_good E _ _ (by omega) (end_ye (ag.tr b1.R) b2 ((b1.1 60 0 0 rfl).trans h0) ?_)
            rw [e0, hf, e1, few, h2]; rfl
      have := key 0 (Nat.zero_le _) (M0 M) (agM0 M) hr rfl rfl
      rw [h]
      exact this
    · refine x_good E _ _ (by omega) (end_ye (agM0 M) hr rfl ?_)
      unfold qFewest; rw [if_neg (by rw [h]; decide), if_pos hx]
  · refine x_ref E _ _ (by omega) (end_no (tWhy M x (nI 1)) (agM0 M) hr rfl ?_)
    unfold qFewest; rw [if_pos (by omega)]
end R10
