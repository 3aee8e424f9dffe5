/-! the reference: its questions without a search -/
def hT (M : Me) : Bool := bt (M.1 60 0 23) 0
def RX (M : Me) : Prop := RW M ∧ M.1 60 0 23 = bI (hT M)
def aSt (M : Me) (x : Int32) : Bool := hT M && (decide (nI 0 ≤ x) && decide (x ≤ nI (sN M) - nI 1))
def aCh (M : Me) (x : Int32) : Bool := decide (nI 1 ≤ x) && decide (x ≤ nI (cN M))
def aSet (M : Me) (x : Int32) : Bool := decide (nI 0 ≤ x) && decide (x ≤ nI (2 ^ sN M - 1))
theorem nneg {x : Int32} (h : nI 0 ≤ x) : ∃ k : Nat, k < 2 ^ 31 ∧ x = nI k := nI_of (Int32.not_lt.mpr h)
theorem aSt_at {M : Me} (hR : RW M) {x : Int32} (h : aSt M x = true) : ∃ s, s < sN M ∧ x = nI s := by
  simp only [aSt, Bool.and_eq_true, decide_eq_true_eq] at h
  obtain ⟨-, h1, h2⟩ := h
  obtain ⟨k, hk, rfl⟩ := nneg h1
  have hn := hR.2.1.2
  by_cases h0 : sN M = 0
  · rw [h0] at h2
    have h3 := Int32.le_iff_toInt_le.mp h2
    rw [nI_toInt hk] at h3
    have e : (nI 0 - nI 1).toInt = -1 := by decide
    rw [e] at h3
    omega
  · rw [nI_m1 (by omega)] at h2
    have := (nI_leI hk (by omega)).mp h2
    exact ⟨k, by omega, rfl⟩
theorem aCh_at {M : Me} (hR : RW M) {x : Int32} (h : aCh M x = true) : ∃ c, 1 ≤ c ∧ c ≤ cN M ∧ x = nI c := by
  simp only [aCh, Bool.and_eq_true, decide_eq_true_eq] at h
  obtain ⟨k, hk, rfl⟩ := nneg (Int32.le_trans (by decide) h.1)
  have hn := hR.1.2
  exact ⟨k, (nI_leI (by omega) hk).mp h.1, (nI_leI hk (by omega)).mp h.2, rfl⟩
theorem pw8 {n : Nat} (h : n ≤ 8) : 2 ^ n ≤ 256 := Nat.pow_le_pow_right (by omega) h
theorem aSet_at {M : Me} (hR : RW M) {x : Int32} (h : aSet M x = true) : ∃ k, k < 2 ^ sN M ∧ x = nI k := by
  simp only [aSet, Bool.and_eq_true, decide_eq_true_eq] at h
  obtain ⟨k, hk, rfl⟩ := nneg h.1
  have hn := pw8 hR.2.1.2
  have hp : 0 < 2 ^ sN M := Nat.two_pow_pos _
  have := (nI_leI hk (by omega)).mp h.2
  exact ⟨k, by omega, rfl⟩
theorem qF {x : Int32} {b : Bool} {A B : Prop} (hx : x = bI b) (h0 : b = false → A) (h1 : b = true → B) : (x = nI 0 → A) ∧ (¬ x = nI 0 → B) := by subst hx; exact brF h0 h1
theorem qN {x : Int32} {b : Bool} {A B : Prop} (hx : x = bI b) (h1 : b = true → A) (h0 : b = false → B) : (¬ x = nI 0 → A) ∧ (x = nI 0 → B) := by subst hx; exact brN h1 h0
def tN (x : Int32) : Nat := x.toNatClampNeg
theorem tN_nI {k : Nat} (h : k < 2 ^ 31) : tN (nI k) = k := nI_clamp h
abbrev AT : Type := Int32 × Int32
def no (t : Nat) : AT := (-(nI 1), nI t)
def ye (v : Int32) : AT := (v, nI 0)
/-- behind a call of the reference: what was thrown, trouble, where -/
def rTr (M : Me) (t : Int32) : Me := sI (sI (sI M 60 0 0 (nI 0)) 60 0 1 t) 60 0 2 (-(nI 1))
abbrev RQ (M : Me) (p : AT) : Option AV → Me → Prop := fun r M' => r = some (vI p.1) ∧ M' = rTr M p.2
section R2
variable (E : EV) (d : Nat) (M : Me)
theorem r_refused (t : Int32) : Mt E d m_Mo_refused [vP 60 0, vI t] M (fun r M' => r = some (vI (-(nI 1))) ∧ M' = sI (sI M 60 0 1 t) 60 0 2 (-(nI 1))) :=
  Mt.go ok_Mo_refused [] 30 rfl (And.intro rfl rfl)
theorem r_good (v : Int32) : Mt E d m_Mo_good [vP 60 0, vI v] M (fun r M' => r = some (vI v) ∧ M' = sI (sI M 60 0 1 (nI 0)) 60 0 2 (-(nI 1))) :=
  Mt.go ok_Mo_good [] 30 rfl (And.intro rfl rfl)
/-- the two ends of a question: refused, or good -/
theorem x_ref {K : Option AV → Me → Prop} {m : Me} (t : Int32) (h0 : 0 < d) (hk : K (some (vI (-(nI 1)))) (sI (sI m 60 0 1 t) 60 0 2 (-(nI 1)))) : codeW m_Mo_refused ∈ TW ∧ CallK E d m_Mo_refused [vP 60 0, vI t] m K :=
  xc 0 ok_Mo_refused (r_refused E 0 m t) h0 (fun r M' h => by rw [h.1, h.2]; exact hk)
theorem x_good {K : Option AV → Me → Prop} {m : Me} (v : Int32) (h0 : 0 < d) (hk : K (some (vI v)) (sI (sI m 60 0 1 (nI 0)) 60 0 2 (-(nI 1)))) : codeW m_Mo_good ∈ TW ∧ CallK E d m_Mo_good [vP 60 0, vI v] m K :=
  xc 0 ok_Mo_good (r_good E 0 m v) h0 (fun r M' h => by rw [h.1, h.2]; exact hk)
theorem r_isStation (hX : RX M) (x : Int32) : Mt E (d + 1) m_Mo_isStation [vP 60 0, vI x] M (RP (vI (bI (aSt M x))) M) := by
  obtain ⟨hR, hx⟩ := hX
  refine Mt.go ok_Mo_isStation [] 60 rfl ?_
  refine qF hx (fun h => ?_) (fun h => ?_)
  · refine And.intro (Or.inl rfl) (And.intro ?_ rfl)
    unfold aSt; rw [h]; rfl
  · refine xq d ok_Mo_in (r_in E d M _ _ _) (by omega) ?_
    rw [hR.2.1.1]
    refine brF (fun h1 => ?_) (fun h1 => ?_)
    · refine And.intro (Or.inl rfl) (And.intro ?_ rfl)
      unfold aSt; rw [h, h1]; rfl
    · refine And.intro (Or.inr rfl) (And.intro ?_ rfl)
      unfold aSt; rw [h, h1]; rfl
theorem r_isChannel (hR : RW M) (x : Int32) : Mt E (d + 1) m_Mo_isChannel [vP 60 0, vI x] M (RP (vI (bI (aCh M x))) M) := by
  refine Mt.go ok_Mo_isChannel [] 60 rfl ?_
  refine xq d ok_Mo_in (r_in E d M _ _ _) (by omega) ?_
  refine And.intro (bI_or _) (And.intro ?_ rfl)
  unfold aCh; rw [← hR.1.1]
theorem r_isSet (hR : RW M) (x : Int32) : Mt E (d + 1) m_Mo_isSet [vP 60 0, vI x] M (RP (vI (bI (aSet M x))) M) := by
  refine Mt.go ok_Mo_isSet [] 60 rfl ?_
  refine xq d ok_Mo_in (r_in E d M _ _ _) (by omega) ?_
  refine And.intro (bI_or _) (And.intro ?_ rfl)
  unfold aSet
  rw [← ones_eq (sN M) (by have := hR.2.1.2; omega), ← hR.2.1.1]
/-- the worth of a set -/
def aWr (w : Nat → Int32) (set : Int32) : Nat → Int32
  | 0 => nI 0
  | n + 1 => aWr w set n + bif bt set n then w (8 + n) else nI 0
theorem r_worthOf (hR : RW M) (set : Int32) : Mt E (d + 1) m_Mo_worthOf [vP 60 0, vI set] M (RP (vI (aWr (M.1 65 0) set (sN M))) M) := by
  obtain ⟨-, ⟨hn, hn'⟩, -⟩ := hR
  refine Mt.go ok_Mo_worthOf [4] 60 rfl ?_
  have key : ∀ t, t ≤ sN M → ∀ x, x = aWr (M.1 65 0) set t → Wp E (d + 1) m_Mo_worthOf 4 [some (vP 60 0), some (vI set), some (vI x), some (vI (nI t))] [] M (RP (vI (aWr (M.1 65 0) set (sN M))) M) := by
    refine loopUp (sN M) ?_ ?_
    · intro x hx
      refine go ok_Mo_worthOf [4] 60 ?_
      exact qLe hn rfl (by omega) (by omega) (fun _ => And.intro (by rw [hx]) rfl) (fun c => absurd c (by omega))
    · intro t hlt ih x hx
      refine go ok_Mo_worthOf [4] 60 ?_
      refine qLe hn rfl (by omega) (by omega) (fun h => absurd h (by omega)) (fun _ => ?_)
      refine xq d ok_Mo_has (r_has E d M _ t (by omega)) (by omega) ?_
      refine brF (fun h => ?_) (fun h => ?_)
      · refine nm_r (nI_add _ _) (ih _ ?_)
        rw [hx, aWr, h]; rfl
      · refine ix (8 + t) (show _ < 26 by omega) (nI_s8 8 t) ?_
        refine nm_r (nI_add _ _) (ih _ ?_)
        rw [hx, aWr, h]; rfl
  exact key 0 (Nat.zero_le _) _ rfl
def aWrong (M : Me) : Nat → Bool := fun s => decide (s < sN M) && (aOn M s && !aMay M s (oN M s))
theorem r_wrongOnes (hR : RW M) : Mt E (d + 4) m_Mo_wrongOnes [vP 60 0] M (RP (vI (S32 (aWrong M))) M) := by
  obtain ⟨-, ⟨hn, hn'⟩, -, ho⟩ := id hR
  refine Mt.go ok_Mo_wrongOnes [4] 60 rfl ?_
  have key : ∀ t, t ≤ sN M → ∀ x, x = mkS (aWrong M) t → Wp E (d + 4) m_Mo_wrongOnes 4 [some (vP 60 0), some (vI x), some (vI (nI t))] [] M (RP (vI (S32 (aWrong M))) M) := by
    refine loopUp (sN M) ?_ ?_
    · intro x hx
      refine go ok_Mo_wrongOnes [4] 60 ?_
      refine qLe hn rfl (by omega) (by omega) (fun _ => And.intro ?_ rfl) (fun c => absurd c (by omega))
      rw [hx, mkS_full (by omega)]
      intro i hi
      unfold aWrong at hi
      simp only [Bool.and_eq_true, decide_eq_true_eq] at hi
      exact hi.1
    · intro t hlt ih x hx
      obtain ⟨ho1, ho2, ho3⟩ := ho t hlt
      have hf : aWrong M t = (aOn M t && !aMay M t (oN M t)) := by unfold aWrong; rw [decide_eq_true hlt, Bool.true_and]
      refine go ok_Mo_wrongOnes [4] 80 ?_
      refine qLe hn rfl (by omega) (by omega) (fun h => absurd h (by omega)) (fun _ => ?_)
      refine xq (d + 1) ok_Mo_isOn (r_isOn E d M t (by omega)) (by omega) ?_
      refine brF (fun h1 => ?_) (fun h1 => ?_)
      · refine nm_r (nI_add _ _) (ih _ ?_)
        rw [hx, mkS, hf, h1]; rfl
      · refine xq (d + 2) ok_Mo_list (r_list E d M hR t (by omega)) (by omega) ?_
        refine ix t (show _ < 26 by omega) (by rw [nI_s8, Nat.zero_add]) ?_
        refine xq d ok_Mo_has (by rw [ho1, nI_m1 (by omega)]; exact r_has E d M _ (oN M t - 1) (by omega)) (by omega) ?_
        rw [S32_at (by omega)]
        refine brF (fun h2 => ?_) (fun h2 => ?_)
        · refine nm_r (nI_add _ _) (ih _ ?_)
          rw [hx, mkS, hf, h1, aMay, h2]; rfl
        · refine ix t (show _ < 26 by omega) (by rw [nI_s8, Nat.zero_add]) ?_
          refine xq (d + 3) ok_Mo_disturbers (by rw [ho1]; exact r_disturbers E d M hR t (oN M t) (by omega) (by omega)) (by omega) ?_
          refine And.intro (fun q => ?_) (fun q => ?_)
          · refine nm_r (nI_add _ _) (ih _ ?_)
            rw [hx, mkS, hf, h1, aMay, h2, (noDsb_iff M hR _ _).mp q]; rfl
          · refine nm_r (nI_add _ _) (ih _ ?_)
            have hz : noDsb M t (oN M t) = false := by
              cases hz : noDsb M t (oN M t) with
              | false => rfl
              | true => exact absurd ((noDsb_iff M hR _ _).mpr hz) q
            rw [hx, mkS, hf, h1, aMay, h2, hz]; rfl
  exact key 0 (Nat.zero_le _) _ rfl
end R2
def qFar (M : Me) (x y : Int32) : AT := bif aSt M x && aSt M y then ye (aFar M (tN x) (tN y)) else no 1
def aTop (w : Nat → Int32) : Nat → Int32
  | 0 => nI 0
  | n + 1 => bif bt (w 24) n && decide (aTop w n < w n) then w n else aTop w n
def qAbout (M : Me) (x : Int32) : AT := if hT M = false then no 1 else if x = nI 0 then ye (nI (cN M)) else if x = nI 1 then ye (nI (sN M)) else if x = nI 2 then ye (nI (bN M)) else if x = nI 3 then ye (M.1 65 0 24) else if x = nI 4 then ye (S32 (aWrong M)) else if x = nI 5 then ye (aWr (M.1 65 0) (M.1 65 0 24) (sN M)) else if x = nI 6 then ye (M.1 65 0 25) else if x = nI 7 then ye (aTop (M.1 65 0) (sN M)) else if x = nI 8 then ye (M.1 60 0 29) else no 1
def qStation (M : Me) (x y : Int32) : AT := if aSt M x = false then no 1 else if y = nI 0 then ye (M.1 62 0 (3 * tN x)) else if y = nI 1 then ye (M.1 62 0 (3 * tN x + 1)) else if y = nI 2 then ye (M.1 62 0 (3 * tN x + 2)) else if y = nI 3 then ye (M.1 65 0 (tN x)) else if y = nI 4 then ye (M.1 65 0 (8 + tN x)) else if y = nI 5 then ye (bI (aOn M (tN x))) else if y = nI 6 then ye (S32 (aLst M (tN x))) else if y = nI 7 then ye (M.1 65 0 (16 + tN x)) else no 1
theorem sw_out {x : Int32} {a b : Nat} (h : x < nI a ∨ nI b < x) (hb : b < 2 ^ 31) (hab : a ≤ b) : ∀ j, a ≤ j → j ≤ b → ¬ x = nI j := by
  intro j h1 h2 e
  subst e
  rcases h with h | h
  · have := (nI_ltI (by omega) (by omega)).mp h; omega
  · have := (nI_ltI (by omega) (by omega)).mp h; omega
theorem nI_dne {i j : Nat} (hi : i < 2 ^ 31) (hj : j < 2 ^ 31) (h : i ≠ j) : ¬ nI i = nI j := fun e => h ((nI_eq hi hj).mp e)
section R3
variable (E : EV) (d : Nat) (M : Me)
theorem r_far (hX : RX M) (x y : Int32) : Mt E (d + 2) m_Mo_far [vP 60 0, vI x, vI y] M (RQ M (qFar M x y)) := by
  refine Mt.go ok_Mo_far [] 60 rfl ?_
  have hn := hX.1.2.1.2
  have hX0 : RX (sI M 60 0 0 (nI 0)) := hX
  refine xq (d + 1) ok_Mo_isStation (r_isStation E d _ hX0 x) (by omega) ?_
  refine brF (fun h1 => ?_) (fun h1 => ?_)
  · have h1 : aSt M x = false := h1
    refine x_ref E _ (nI 1) (by omega) ?_
    have e : qFar M x y = no 1 := by unfold qFar; rw [h1]; rfl
    rw [e]; exact And.intro rfl rfl
  · have h1 : aSt M x = true := h1
    refine xq (d + 1) ok_Mo_isStation (r_isStation E d _ hX0 y) (by omega) ?_
    refine brF (fun h2 => ?_) (fun h2 => ?_)
    · have h2 : aSt M y = false := h2
      refine x_ref E _ (nI 1) (by omega) ?_
      have e : qFar M x y = no 1 := by unfold qFar; rw [h2, Bool.and_false]; rfl
      rw [e]; exact And.intro rfl rfl
    · have h2 : aSt M y = true := h2
      have e : qFar M x y = ye (aFar M (tN x) (tN y)) := by unfold qFar; rw [h1, h2]; rfl
      rw [e]
      obtain ⟨s, hs, rfl⟩ := aSt_at hX.1 h1
      obtain ⟨t, ht, rfl⟩ := aSt_at hX.1 h2
      rw [tN_nI (by omega), tN_nI (by omega)]
      refine xq d ok_Mo_farOf (r_farOf E d _ s t (by omega) (by omega)) (by omega) ?_
      refine x_good E _ _ (by omega) ?_
      exact And.intro rfl rfl
theorem r_about (hX : RX M) (x : Int32) : Mt E (d + 5) m_Mo_about [vP 60 0, vI x] M (RQ M (qAbout M x)) := by
  obtain ⟨hR, hx⟩ := id hX
  obtain ⟨⟨hc, hc'⟩, ⟨hn, hn'⟩, ⟨hb, hb'⟩, ho⟩ := id hR
  refine Mt.go ok_Mo_about [22] 60 rfl ?_
  have hR0 : RW (sI M 60 0 0 (nI 0)) := hR
  have key : ∀ t, t ≤ sN M → hT M = true → ∀ z, z = aTop (M.1 65 0) t → Wp E (d + 5) m_Mo_about 22 [some (vP 60 0), some (vI x), some (vI z), some (vI (nI t))] [] (sI M 60 0 0 (nI 0)) (RQ M (qAbout M x)) := by
    refine loopUp (sN M) ?_ ?_
    · intro hh z hz
      refine go ok_Mo_about [22] 60 ?_
      refine qLe hn rfl (by omega) (by omega) (fun _ => ?_) (fun c => absurd c (by omega))
      have hq : ∀ j, j ≤ 8 → ∀ v, (x = nI j → qAbout M x = ye v) → x = nI j → RQ M (qAbout M x) (some (vI v)) (sI (sI (sI M 60 0 0 (nI 0)) 60 0 1 (nI 0)) 60 0 2 (-(nI 1))) := by
        intro j _ v h e
        rw [h e]
        exact And.intro rfl rfl
      refine And.intro (fun h => ?_) ?_
      · have hne := sw_out h (by omega) (by omega)
        refine x_ref E _ (nI 1) (by omega) ?_
        have e : qAbout M x = no 1 := by
          unfold qAbout
          rw [if_neg (by rw [hh]; decide), if_neg (hne 0 (by omega) (by omega)), if_neg (hne 1 (by omega) (by omega)), if_neg (hne 2 (by omega) (by omega)), if_neg (hne 3 (by omega) (by omega)), if_neg (hne 4 (by omega) (by omega)), if_neg (hne 5 (by omega) (by omega)), if_neg (hne 6 (by omega) (by omega)), if_neg (hne 7 (by omega) (by omega)), if_neg (hne 8 (by omega) (by omega))]
        rw [e]; exact And.intro rfl rfl
      · refine And.intro (fun e => ?_) (And.intro (fun e => ?_) (And.intro (fun e => ?_) (And.intro (fun e => ?_) (And.intro (fun e => ?_) (And.intro (fun e => ?_) (And.intro (fun e => ?_) (And.intro (fun e => ?_) (And.intro (fun e => ?_) trivial))))))))
        · refine x_good E _ _ (by omega) (hq 0 (by omega) _ (fun e => ?_) e)
          unfold qAbout; subst e; rw [if_neg (by rw [hh]; decide), ← hc]; rfl
        · refine x_good E _ _ (by omega) (hq 1 (by omega) _ (fun e => ?_) e)
          unfold qAbout; subst e; rw [if_neg (by rw [hh]; decide), ← hn]; rfl
        · refine x_good E _ _ (by omega) (hq 2 (by omega) _ (fun e => ?_) e)
          unfold qAbout; subst e; rw [if_neg (by rw [hh]; decide), ← hb]; rfl
        · refine ix 24 (show _ < 26 by omega) rfl ?_
          refine x_good E _ _ (by omega) (hq 3 (by omega) _ (fun e => ?_) e)
          unfold qAbout; subst e; rw [if_neg (by rw [hh]; decide)]; rfl
        · refine xq (d + 4) ok_Mo_wrongOnes (r_wrongOnes E d _ hR0) (by omega) ?_
          refine x_good E _ _ (by omega) (hq 4 (by omega) _ (fun e => ?_) e)
          unfold qAbout; subst e; rw [if_neg (by rw [hh]; decide)]; rfl
        · refine ix 24 (show _ < 26 by omega) rfl ?_
          refine xq (d + 1) ok_Mo_worthOf (r_worthOf E d _ hR0 _) (by omega) ?_
          refine x_good E _ _ (by omega) (hq 5 (by omega) _ (fun e => ?_) e)
          unfold qAbout; subst e; rw [if_neg (by rw [hh]; decide)]; rfl
        · refine ix 25 (show _ < 26 by omega) rfl ?_
          refine x_good E _ _ (by omega) (hq 6 (by omega) _ (fun e => ?_) e)
          unfold qAbout; subst e; rw [if_neg (by rw [hh]; decide)]; rfl
        · refine x_good E _ _ (by omega) (hq 7 (by omega) _ (fun e => ?_) e)
          unfold qAbout; subst e; rw [if_neg (by rw [hh]; decide), hz]; rfl
        · refine x_good E _ _ (by omega) (hq 8 (by omega) _ (fun e => ?_) e)
          unfold qAbout; subst e; rw [if_neg (by rw [hh]; decide)]; rfl
    · intro t hlt ih hh z hz
      refine go ok_Mo_about [22] 60 ?_
      refine qLe hn rfl (by omega) (by omega) (fun h => absurd h (by omega)) (fun _ => ?_)
      refine xq (d + 1) ok_Mo_isOn (r_isOn E d _ t (by omega)) (by omega) ?_
      refine brF (fun h1 => ?_) (fun h1 => ?_)
      · have h1 : bt (M.1 65 0 24) t = false := h1
        refine nm_r (nI_add _ _) (ih hh _ ?_)
        rw [hz, aTop, h1]; rfl
      · have h1 : bt (M.1 65 0 24) t = true := h1
        refine ix t (show _ < 26 by omega) (by rw [nI_s8, Nat.zero_add]) ?_
        refine And.intro (fun q => ?_) (fun q => ?_)
        · refine nm_r (nI_add _ _) (ih hh _ ?_)
          have q : M.1 65 0 t ≤ z := q
          rw [hz, aTop, h1, decide_eq_false (Int32.not_lt.mpr (hz ▸ q))]; rfl
        · refine ix t (show _ < 26 by omega) (by rw [nI_s8, Nat.zero_add]) ?_
          refine nm_r (nI_add _ _) (ih hh _ ?_)
          have q : ¬ M.1 65 0 t ≤ z := q
          rw [aTop, h1, decide_eq_true (hz ▸ Int32.not_le.mp q)]; rfl
  refine qN hx (fun h => ?_) (fun h => ?_)
  · exact key 0 (Nat.zero_le _) h _ rfl
  · refine x_ref E _ (nI 1) (by omega) ?_
    have e : qAbout M x = no 1 := by unfold qAbout; rw [if_pos h]
    rw [e]; exact And.intro rfl rfl
end R3
