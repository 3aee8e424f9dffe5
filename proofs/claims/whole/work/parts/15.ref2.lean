/-! the reference: its questions without a search -/
def hT (M : Me) : Bool := bt (M.1 60 0 23) 0
def RX (M : Me) : Prop := RW M ∧ M.1 60 0 23 = bI (hT M)
def aSt (M : Me) (x : Int32) : Bool := hT M && (decide (nI 0 ≤ x) && decide (x ≤ nI (sN M) - nI 1))
def aCh (M : Me) (x : Int32) : Bool := decide (nI 1 ≤ x) && decide (x ≤ nI (cN M))
def aSet (M : Me) (x : Int32) : Bool := decide (nI 0 ≤ x) && decide (x ≤ nI (2 ^ sN M - 1))
theorem nneg {x : Int32} (h : nI 0 ≤ x) : ∃ k : Nat, k < 2 ^ 31 ∧ x = nI k := nI_of (Int32.not_lt.mpr h)
theorem aSt_at {M : Me} (hR : RW M) {x : Int32} (h : aSt M x = true) : ∃ s, s < sN M ∧ x = nI s := by
  simp only [aSt, Bool.and_eq_true, decide_eq_true_eq] at h
  obtain ⟨-, h1, h2⟩ := h
  obtain ⟨k, hk, rfl⟩ := nneg h1
  have hn := hR.2.1.2
  by_cases h0 : sN M = 0
  · rw [h0] at h2
    have h3 := Int32.le_iff_toInt_le.mp h2
    rw [nI_toInt hk] at h3
    have e : (nI 0 - nI 1).toInt = -1 := by decide
    rw [e] at h3
    omega
  · rw [nI_m1 (by omega)] at h2
    have := (nI_leI hk (by omega)).mp h2
    exact ⟨k, by omega, rfl⟩
theorem aCh_at {M : Me} (hR : RW M) {x : Int32} (h : aCh M x = true) : ∃ c, 1 ≤ c ∧ c ≤ cN M ∧ x = nI c := by
  simp only [aCh, Bool.and_eq_true, decide_eq_true_eq] at h
  obtain ⟨k, hk, rfl⟩ := nneg (Int32.le_trans (by decide) h.1)
  have hn := hR.1.2
  exact ⟨k, (nI_leI (by omega) hk).mp h.1, (nI_leI hk (by omega)).mp h.2, rfl⟩
theorem pw8 {n : Nat} (h : n ≤ 8) : 2 ^ n ≤ 256 := Nat.pow_le_pow_right (by omega) h
theorem aSet_at {M : Me} (hR : RW M) {x : Int32} (h : aSet M x = true) : ∃ k, k < 2 ^ sN M ∧ x = nI k := by
  simp only [aSet, Bool.and_eq_true, decide_eq_true_eq] at h
  obtain ⟨k, hk, rfl⟩ := nneg h.1
  have hn := pw8 hR.2.1.2
  have hp : 0 < 2 ^ sN M := Nat.two_pow_pos _
  have := (nI_leI hk (by omega)).mp h.2
  exact ⟨k, by omega, rfl⟩
/-- behind a call of the reference: what was thrown, trouble, where -/
def rTr (M : Me) (t : Int32) : Me := sI (sI (sI M 60 0 0 (nI 0)) 60 0 1 t) 60 0 2 (-(nI 1))
abbrev RQ (M : Me) (v t : Int32) : Option AV → Me → Prop := fun r M' => r = some (vI v) ∧ M' = rTr M t
section R2
variable (E : EV) (d : Nat) (M : Me)
theorem r_refused (t : Int32) : Mt E d m_Mo_refused [vP 60 0, vI t] M (fun r M' => r = some (vI (-(nI 1))) ∧ M' = sI (sI M 60 0 1 t) 60 0 2 (-(nI 1))) :=
  Mt.go ok_Mo_refused [] 30 rfl (And.intro rfl rfl)
theorem r_good (v : Int32) : Mt E d m_Mo_good [vP 60 0, vI v] M (fun r M' => r = some (vI v) ∧ M' = sI (sI M 60 0 1 (nI 0)) 60 0 2 (-(nI 1))) :=
  Mt.go ok_Mo_good [] 30 rfl (And.intro rfl rfl)
/-- the two ends of a question: refused, or good -/
theorem x_ref {K : Option AV → Me → Prop} {m : Me} (t : Int32) (h0 : 0 < d) (hk : K (some (vI (-(nI 1)))) (sI (sI m 60 0 1 t) 60 0 2 (-(nI 1)))) : codeW m_Mo_refused ∈ TW ∧ CallK E d m_Mo_refused [vP 60 0, vI t] m K :=
  xc 0 ok_Mo_refused (r_refused E 0 m t) h0 (fun r M' h => by rw [h.1, h.2]; exact hk)
theorem x_good {K : Option AV → Me → Prop} {m : Me} (v : Int32) (h0 : 0 < d) (hk : K (some (vI v)) (sI (sI m 60 0 1 (nI 0)) 60 0 2 (-(nI 1)))) : codeW m_Mo_good ∈ TW ∧ CallK E d m_Mo_good [vP 60 0, vI v] m K :=
  xc 0 ok_Mo_good (r_good E 0 m v) h0 (fun r M' h => by rw [h.1, h.2]; exact hk)
theorem r_isStation (hX : RX M) (x : Int32) : Mt E (d + 1) m_Mo_isStation [vP 60 0, vI x] M (RP (vI (bI (aSt M x))) M) := by
  obtain ⟨hR, hx⟩ := hX
  refine Mt.go ok_Mo_isStation [] 60 rfl ?_
  rw [hx]
  refine brF (fun h => ?_) (fun h => ?_)
  · refine And.intro (Or.inl rfl) (And.intro ?_ rfl)
    unfold aSt; rw [h]; rfl
  · refine xq d ok_Mo_in (r_in E d M _ _ _) (by omega) ?_
    rw [hR.2.1.1]
    refine brF (fun h1 => ?_) (fun h1 => ?_)
    · refine And.intro (Or.inl rfl) (And.intro ?_ rfl)
      unfold aSt; rw [h, h1]; rfl
    · refine And.intro (Or.inr rfl) (And.intro ?_ rfl)
      unfold aSt; rw [h, h1]; rfl
theorem r_isChannel (hR : RW M) (x : Int32) : Mt E (d + 1) m_Mo_isChannel [vP 60 0, vI x] M (RP (vI (bI (aCh M x))) M) := by
  refine Mt.go ok_Mo_isChannel [] 60 rfl ?_
  refine xq d ok_Mo_in (r_in E d M _ _ _) (by omega) ?_
  refine And.intro (bI_or _) (And.intro ?_ rfl)
  unfold aCh; rw [← hR.1.1]
theorem r_isSet (hR : RW M) (x : Int32) : Mt E (d + 1) m_Mo_isSet [vP 60 0, vI x] M (RP (vI (bI (aSet M x))) M) := by
  refine Mt.go ok_Mo_isSet [] 60 rfl ?_
  refine xq d ok_Mo_in (r_in E d M _ _ _) (by omega) ?_
  refine And.intro (bI_or _) (And.intro ?_ rfl)
  unfold aSet
  rw [← ones_eq (sN M) (by have := hR.2.1.2; omega), ← hR.2.1.1]
/-- the worth of a set -/
def aWr (M : Me) (set : Int32) : Nat → Int32
  | 0 => nI 0
  | n + 1 => aWr M set n + bif bt set n then M.1 65 0 (8 + n) else nI 0
theorem r_worthOf (hR : RW M) (set : Int32) : Mt E (d + 1) m_Mo_worthOf [vP 60 0, vI set] M (RP (vI (aWr M set (sN M))) M) := by
  obtain ⟨-, ⟨hn, hn'⟩, -⟩ := hR
  refine Mt.go ok_Mo_worthOf [4] 60 rfl ?_
  have key : ∀ t, t ≤ sN M → ∀ x, x = aWr M set t → Wp E (d + 1) m_Mo_worthOf 4 [some (vP 60 0), some (vI set), some (vI x), some (vI (nI t))] [] M (RP (vI (aWr M set (sN M))) M) := by
    refine loopUp (sN M) ?_ ?_
    · intro x hx
      refine go ok_Mo_worthOf [4] 60 ?_
      exact qLe hn rfl (by omega) (by omega) (fun _ => And.intro (by rw [hx]) rfl) (fun c => absurd c (by omega))
    · intro t hlt ih x hx
      refine go ok_Mo_worthOf [4] 60 ?_
      refine qLe hn rfl (by omega) (by omega) (fun h => absurd h (by omega)) (fun _ => ?_)
      refine xq d ok_Mo_has (r_has E d M _ t (by omega)) (by omega) ?_
      refine brF (fun h => ?_) (fun h => ?_)
      · refine nm_r (nI_add _ _) (ih _ ?_)
        rw [hx, aWr, h]; rfl
      · refine ix (8 + t) (show _ < 26 by omega) (nI_s8 8 t) ?_
        refine nm_r (nI_add _ _) (ih _ ?_)
        rw [hx, aWr, h]; rfl
  exact key 0 (Nat.zero_le _) _ rfl
def aWrong (M : Me) : Nat → Bool := fun s => decide (s < sN M) && (aOn M s && !aMay M s (oN M s))
theorem r_wrongOnes (hR : RW M) : Mt E (d + 4) m_Mo_wrongOnes [vP 60 0] M (RP (vI (S32 (aWrong M))) M) := by
  obtain ⟨-, ⟨hn, hn'⟩, -, ho⟩ := id hR
  refine Mt.go ok_Mo_wrongOnes [4] 60 rfl ?_
  have key : ∀ t, t ≤ sN M → ∀ x, x = mkS (aWrong M) t → Wp E (d + 4) m_Mo_wrongOnes 4 [some (vP 60 0), some (vI x), some (vI (nI t))] [] M (RP (vI (S32 (aWrong M))) M) := by
    refine loopUp (sN M) ?_ ?_
    · intro x hx
      refine go ok_Mo_wrongOnes [4] 60 ?_
      refine qLe hn rfl (by omega) (by omega) (fun _ => And.intro ?_ rfl) (fun c => absurd c (by omega))
      rw [hx, mkS_full (by omega)]
      intro i hi
      unfold aWrong at hi
      simp only [Bool.and_eq_true, decide_eq_true_eq] at hi
      exact hi.1
    · intro t hlt ih x hx
      obtain ⟨ho1, ho2, ho3⟩ := ho t hlt
      have hf : aWrong M t = (aOn M t && !aMay M t (oN M t)) := by unfold aWrong; rw [decide_eq_true hlt, Bool.true_and]
      refine go ok_Mo_wrongOnes [4] 80 ?_
      refine qLe hn rfl (by omega) (by omega) (fun h => absurd h (by omega)) (fun _ => ?_)
      refine xq (d + 1) ok_Mo_isOn (r_isOn E d M t (by omega)) (by omega) ?_
      refine brF (fun h1 => ?_) (fun h1 => ?_)
      · refine nm_r (nI_add _ _) (ih _ ?_)
        rw [hx, mkS, hf, h1]; rfl
      · refine xq (d + 2) ok_Mo_list (r_list E d M hR t (by omega)) (by omega) ?_
        refine ix t (show _ < 26 by omega) (by rw [nI_s8, Nat.zero_add]) ?_
        refine xq d ok_Mo_has (by rw [ho1, nI_m1 (by omega)]; exact r_has E d M _ (oN M t - 1) (by omega)) (by omega) ?_
        rw [S32_at (by omega)]
        refine brF (fun h2 => ?_) (fun h2 => ?_)
        · refine nm_r (nI_add _ _) (ih _ ?_)
          rw [hx, mkS, hf, h1, aMay, h2]; rfl
        · refine ix t (show _ < 26 by omega) (by rw [nI_s8, Nat.zero_add]) ?_
          refine xq (d + 3) ok_Mo_disturbers (by rw [ho1]; exact r_disturbers E d M hR t (oN M t) (by omega) (by omega)) (by omega) ?_
          refine And.intro (fun q => ?_) (fun q => ?_)
          · refine nm_r (nI_add _ _) (ih _ ?_)
            rw [hx, mkS, hf, h1, aMay, h2, (noDsb_iff M hR _ _).mp q]; rfl
          · refine nm_r (nI_add _ _) (ih _ ?_)
            have hz : noDsb M t (oN M t) = false := by
              cases hz : noDsb M t (oN M t) with
              | false => rfl
              | true => exact absurd ((noDsb_iff M hR _ _).mpr hz) q
            rw [hx, mkS, hf, h1, aMay, h2, hz]; rfl
  exact key 0 (Nat.zero_le _) _ rfl
theorem r_far (hX : RX M) (x y : Int32) : Mt E (d + 2) m_Mo_far [vP 60 0, vI x, vI y] M (fun r M' => (aSt M x && aSt M y = false ∧ RQ M (-(nI 1)) (nI 1) r M') ∨ ∃ s t, s < sN M ∧ t < sN M ∧ x = nI s ∧ y = nI t ∧ aSt M x && aSt M y = true ∧ RQ M (aFar M s t) (nI 0) r M') := by
  refine Mt.go ok_Mo_far [] 60 rfl ?_
  have hn := hX.1.2.1.2
  refine xq (d + 1) ok_Mo_isStation (r_isStation E d _ hX x) (by omega) ?_
  refine brF (fun h1 => ?_) (fun h1 => ?_)
  · refine x_ref E _ (nI 1) (by omega) ?_
    exact Or.inl (And.intro (by rw [show aSt M x = false from h1]; rfl) (And.intro rfl rfl))
  · refine xq (d + 1) ok_Mo_isStation (r_isStation E d _ hX y) (by omega) ?_
    refine brF (fun h2 => ?_) (fun h2 => ?_)
    · refine x_ref E _ (nI 1) (by omega) ?_
      exact Or.inl (And.intro (by rw [show aSt M y = false from h2, Bool.and_false]) (And.intro rfl rfl))
    · obtain ⟨s, hs, rfl⟩ := aSt_at hX.1 h1
      obtain ⟨t, ht, rfl⟩ := aSt_at hX.1 h2
      have hs : s < sN M := hs
      have ht : t < sN M := ht
      refine xq d ok_Mo_farOf (r_farOf E d _ s t (by omega) (by omega)) (by omega) ?_
      refine x_good E _ _ (by omega) ?_
      refine Or.inr ⟨s, t, hs, ht, rfl, rfl, ?_, rfl, rfl⟩
      rw [show aSt M _ = true from h1, show aSt M _ = true from h2]; rfl
end R2
