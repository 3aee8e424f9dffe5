/-! the class: what is now, kept and taken back; the plain acts -/
def snp (M : Me) (k : Nat) : Int32 := if k < 24 then (if k % 3 = 0 then M.1 5 0 (k / 3) else if k % 3 = 1 then M.1 6 0 (k / 3) else M.1 7 0 (k / 3)) else if k = 24 then M.1 4 0 3 else M.1 4 0 4
theorem snp_0 (M : Me) {s : Nat} (h : s < 8) : snp M (3 * s) = M.1 5 0 s := by
  unfold snp
  rw [if_pos (by omega), if_pos (by omega), show 3 * s / 3 = s by omega]
theorem snp_1 (M : Me) {s : Nat} (h : s < 8) : snp M (3 * s + 1) = M.1 6 0 s := by
  unfold snp
  rw [if_pos (by omega), if_neg (by omega), if_pos (by omega), show (3 * s + 1) / 3 = s by omega]
theorem snp_2 (M : Me) {s : Nat} (h : s < 8) : snp M (3 * s + 2) = M.1 7 0 s := by
  unfold snp
  rw [if_pos (by omega), if_neg (by omega), if_neg (by omega), show (3 * s + 2) / 3 = s by omega]
/-- the memory behind a taking back -/
def RdP (M M' : Me) (q ρ : Nat) : Prop := (∀ i r k, ¬ (i = 4 ∧ (k = 3 ∨ k = 4)) → ¬ (5 ≤ i ∧ i ≤ 7) → M'.1 i r k = M.1 i r k) ∧ M'.2 = M.2 ∧ M'.1 4 0 3 = M.1 q ρ 24 ∧ M'.1 4 0 4 = M.1 q ρ 25 ∧ ∀ s, s < 8 → M'.1 5 0 s = M.1 q ρ (3 * s) ∧ M'.1 6 0 s = M.1 q ρ (3 * s + 1) ∧ M'.1 7 0 s = M.1 q ρ (3 * s + 2)
def hx (M : Me) : Nat := tN (M.1 8 0 1)
def hz (M : Me) : Nat := tN (M.1 8 0 2)
def RH (M : Me) : Prop := (M.1 8 0 1 = nI (hx M) ∧ hx M < 10) ∧ M.1 8 0 2 = nI (hz M) ∧ hz M ≤ 10
def clR (M : Me) : Me := sI (sI (setR M 10 (hx M) 0 26 (snp M)) 8 0 1 (nI (if hx M + 1 = 10 then 0 else hx M + 1))) 8 0 2 (nI (min (hz M + 1) 10))
def hxB (M : Me) : Nat := if hx M = 0 then 9 else hx M - 1
abbrev AC (M : Me) (t : Nat) (v : Int32) (N : Me) : Option AV → Me → Prop := fun r M' => (t ≠ 0 ∧ r = some (vI (-(nI 1))) ∧ M' = sI M 0 0 11 (nI t)) ∨ (t = 0 ∧ r = some (vI v) ∧ M' = sI N 0 0 11 (nI 0))
section A1
variable (E : EV) (d : Nat) (M : Me)
theorem c_writeTo (q ρ : Nat) (hq : q = 10 ∨ q = 12) : Mt E d m_Now_writeTo [vP 4 0, vP q ρ] M (fun r M' => r = none ∧ M' = setR M q ρ 0 26 (snp M)) := by
  have key : ∀ s, s ≤ 8 → ∀ N, N = setR M q ρ 0 (3 * s) (snp M) → Wp E d m_Now_writeTo 10 [some (vP 4 0), some (vP q ρ), some (vI (nI s))] [] N (fun r M' => r = none ∧ M' = setR M q ρ 0 26 (snp M)) := by
    refine loopUp 8 ?_ ?_
    · intro N hN
      have e24 : sI N q ρ 24 (M.1 4 0 3) = setR M q ρ 0 25 (snp M) := by
        have := setR_step M q ρ 0 24 (snp M)
        rw [Nat.zero_add] at this
        rw [hN, ← this]; rfl
      have e25 : sI (setR M q ρ 0 25 (snp M)) q ρ 25 (M.1 4 0 4) = setR M q ρ 0 26 (snp M) := by
        have := setR_step M q ρ 0 25 (snp M)
        rw [Nat.zero_add] at this
        rw [← this]; rfl
      have r3 : N.1 4 0 3 = M.1 4 0 3 := by rw [hN, setR_out (by omega)]
      have r4 : (sI N q ρ 24 (M.1 4 0 3)).1 4 0 4 = M.1 4 0 4 := by rw [sI_at, if_neg (by omega), hN, setR_out (by omega)]
      rw [← e25, ← e24, ← r4, ← r3]
      obtain rfl | rfl := hq
      · refine go ok_Now_writeTo [] 60 ?_
        refine cLe (by omega) (by omega) (fun _ => ?_) (fun q => absurd q (by omega))
        refine ix 24 (show _ < 26 by omega) rfl ?_
        refine ix 25 (show _ < 26 by omega) rfl ?_
        exact And.intro rfl rfl
      · refine go ok_Now_writeTo [] 60 ?_
        refine cLe (by omega) (by omega) (fun _ => ?_) (fun q => absurd q (by omega))
        refine ix 24 (show _ < 26 by omega) rfl ?_
        refine ix 25 (show _ < 26 by omega) rfl ?_
        exact And.intro rfl rfl
    · intro s hs ih N hN
      have a0 : sI N q ρ (3 * s) (N.1 5 0 s) = setR M q ρ 0 (3 * s + 1) (snp M) := by
        have := setR_step M q ρ 0 (3 * s) (snp M)
        rw [Nat.zero_add, snp_0 M hs] at this
        rw [← this, hN, setR_out (by omega)]
      have a1 : sI (sI N q ρ (3 * s) (N.1 5 0 s)) q ρ (3 * s + 1) ((sI N q ρ (3 * s) (N.1 5 0 s)).1 6 0 s) = setR M q ρ 0 (3 * s + 2) (snp M) := by
        have := setR_step M q ρ 0 (3 * s + 1) (snp M)
        rw [Nat.zero_add, snp_1 M hs] at this
        rw [a0, ← this, setR_out (by omega)]
      have a2 : sI (sI (sI N q ρ (3 * s) (N.1 5 0 s)) q ρ (3 * s + 1) ((sI N q ρ (3 * s) (N.1 5 0 s)).1 6 0 s)) q ρ (3 * s + 2) ((sI (sI N q ρ (3 * s) (N.1 5 0 s)) q ρ (3 * s + 1) ((sI N q ρ (3 * s) (N.1 5 0 s)).1 6 0 s)).1 7 0 s) = setR M q ρ 0 (3 * (s + 1)) (snp M) := by
        have := setR_step M q ρ 0 (3 * s + 2) (snp M)
        rw [Nat.zero_add, snp_2 M hs] at this
        rw [a1, show 3 * (s + 1) = 3 * s + 2 + 1 by omega, ← this, setR_out (by omega)]
      have hih := ih _ a2
      obtain rfl | rfl := hq
      · refine go ok_Now_writeTo [10] 60 ?_
        refine cLe (by omega) (by omega) (fun q => absurd q (by omega)) (fun _ => ?_)
        refine ix s (show _ < 8 by omega) rfl ?_
        refine ix (3 * s) (show _ < 26 by omega) (nI_mul 3 s) ?_
        refine ix s (show _ < 8 by omega) rfl ?_
        refine ix (3 * s + 1) (show _ < 26 by omega) (by rw [nI_mul, nI_s8]) ?_
        refine ix s (show _ < 8 by omega) rfl ?_
        refine ix (3 * s + 2) (show _ < 26 by omega) (by rw [nI_mul, nI_s8]) ?_
        exact nm_r (nI_add _ _) hih
      · refine go ok_Now_writeTo [10] 60 ?_
        refine cLe (by omega) (by omega) (fun q => absurd q (by omega)) (fun _ => ?_)
        refine ix s (show _ < 8 by omega) rfl ?_
        refine ix (3 * s) (show _ < 26 by omega) (nI_mul 3 s) ?_
        refine ix s (show _ < 8 by omega) rfl ?_
        refine ix (3 * s + 1) (show _ < 26 by omega) (by rw [nI_mul, nI_s8]) ?_
        refine ix s (show _ < 8 by omega) rfl ?_
        refine ix (3 * s + 2) (show _ < 26 by omega) (by rw [nI_mul, nI_s8]) ?_
        exact nm_r (nI_add _ _) hih
  obtain rfl | rfl := hq
  · refine Mt.go ok_Now_writeTo [10] 60 rfl ?_
    refine And.intro (fun _ => ?_) (fun e => absurd (by decide) e)
    exact key 0 (by omega) _ (setR_0 _ _ _ _ _).symm
  · refine Mt.go ok_Now_writeTo [10] 60 rfl ?_
    refine And.intro (fun _ => ?_) (fun e => absurd (by decide) e)
    exact key 0 (by omega) _ (setR_0 _ _ _ _ _).symm
theorem c_readFrom (q ρ : Nat) (hq : q = 10 ∨ q = 12) : Mt E d m_Now_readFrom [vP 4 0, vP q ρ] M (fun r M' => r = none ∧ RdP M M' q ρ) := by
  have key : ∀ s, s ≤ 8 → ∀ N, (∀ i r k, ¬ (5 ≤ i ∧ i ≤ 7) → N.1 i r k = M.1 i r k) → N.2 = M.2 → (∀ u, u < s → N.1 5 0 u = M.1 q ρ (3 * u) ∧ N.1 6 0 u = M.1 q ρ (3 * u + 1) ∧ N.1 7 0 u = M.1 q ρ (3 * u + 2)) → Wp E d m_Now_readFrom 10 [some (vP 4 0), some (vP q ρ), some (vI (nI s))] [] N (fun r M' => r = none ∧ RdP M M' q ρ) := by
    refine loopUp 8 ?_ ?_
    · intro N h1 h2 h3
      have fin : RdP M (sI (sI N 4 0 3 (N.1 q ρ 24)) 4 0 4 ((sI N 4 0 3 (N.1 q ρ 24)).1 q ρ 25)) q ρ := by
        refine ⟨fun i r k n1 n2 => ?_, h2, ?_, ?_, fun s hs => ?_⟩
        · rw [sI_at, if_neg (by omega), sI_at, if_neg (by omega)]; exact h1 i r k n2
        · rw [sI_at, if_neg (by omega), sI_at, if_pos ⟨rfl, rfl, rfl⟩]; exact h1 q ρ 24 (by omega)
        · rw [sI_at, if_pos ⟨rfl, rfl, rfl⟩, sI_at, if_neg (by omega)]; exact h1 q ρ 25 (by omega)
        · rw [sI_at, if_neg (by omega), sI_at, if_neg (by omega), sI_at, if_neg (by omega), sI_at, if_neg (by omega), sI_at, if_neg (by omega), sI_at, if_neg (by omega)]
          exact h3 s hs
      obtain rfl | rfl := hq
      · refine go ok_Now_readFrom [] 60 ?_
        refine cLe (by omega) (by omega) (fun _ => ?_) (fun q => absurd q (by omega))
        refine ix 24 (show _ < 26 by omega) rfl ?_
        refine ix 25 (show _ < 26 by omega) rfl ?_
        exact And.intro rfl fin
      · refine go ok_Now_readFrom [] 60 ?_
        refine cLe (by omega) (by omega) (fun _ => ?_) (fun q => absurd q (by omega))
        refine ix 24 (show _ < 26 by omega) rfl ?_
        refine ix 25 (show _ < 26 by omega) rfl ?_
        exact And.intro rfl fin
    · intro s hs ih N h1 h2 h3
      have hq5 : ¬ (5 ≤ q ∧ q ≤ 7) := by omega
      have hih := ih (sI (sI (sI N 5 0 s (N.1 q ρ (3 * s))) 6 0 s (N.1 q ρ (3 * s + 1))) 7 0 s (N.1 q ρ (3 * s + 2))) (fun i r k n => by rw [sI_at, if_neg (by omega), sI_at, if_neg (by omega), sI_at, if_neg (by omega)]; exact h1 i r k n) h2 (fun u hu => by
        by_cases e : u = s
        · subst e
          refine ⟨?_, ?_, ?_⟩
          · rw [sI_at, if_neg (by omega), sI_at, if_neg (by omega), sI_at, if_pos ⟨rfl, rfl, rfl⟩]; exact h1 q ρ _ hq5
          · rw [sI_at, if_neg (by omega), sI_at, if_pos ⟨rfl, rfl, rfl⟩]; exact h1 q ρ _ hq5
          · rw [sI_at, if_pos ⟨rfl, rfl, rfl⟩]; exact h1 q ρ _ hq5
        · obtain ⟨w1, w2, w3⟩ := h3 u (by omega)
          refine ⟨?_, ?_, ?_⟩
          · rw [sI_at, if_neg (by omega), sI_at, if_neg (by omega), sI_at, if_neg (by omega)]; exact w1
          · rw [sI_at, if_neg (by omega), sI_at, if_neg (by omega), sI_at, if_neg (by omega)]; exact w2
          · rw [sI_at, if_neg (by omega), sI_at, if_neg (by omega), sI_at, if_neg (by omega)]; exact w3)
      obtain rfl | rfl := hq
      · refine go ok_Now_readFrom [10] 60 ?_
        refine cLe (by omega) (by omega) (fun q => absurd q (by omega)) (fun _ => ?_)
        refine ix (3 * s) (show _ < 26 by omega) (nI_mul 3 s) ?_
        refine ix s (show _ < 8 by omega) rfl ?_
        refine ix (3 * s + 1) (show _ < 26 by omega) (by rw [nI_mul, nI_s8]) ?_
        refine ix s (show _ < 8 by omega) rfl ?_
        refine ix (3 * s + 2) (show _ < 26 by omega) (by rw [nI_mul, nI_s8]) ?_
        refine ix s (show _ < 8 by omega) rfl ?_
        exact nm_r (nI_add _ _) hih
      · refine go ok_Now_readFrom [10] 60 ?_
        refine cLe (by omega) (by omega) (fun q => absurd q (by omega)) (fun _ => ?_)
        refine ix (3 * s) (show _ < 26 by omega) (nI_mul 3 s) ?_
        refine ix s (show _ < 8 by omega) rfl ?_
        refine ix (3 * s + 1) (show _ < 26 by omega) (by rw [nI_mul, nI_s8]) ?_
        refine ix s (show _ < 8 by omega) rfl ?_
        refine ix (3 * s + 2) (show _ < 26 by omega) (by rw [nI_mul, nI_s8]) ?_
        refine ix s (show _ < 8 by omega) rfl ?_
        exact nm_r (nI_add _ _) hih
  obtain rfl | rfl := hq
  · refine Mt.go ok_Now_readFrom [10] 60 rfl ?_
    refine And.intro (fun _ => ?_) (fun e => absurd (by decide) e)
    exact key 0 (by omega) M (fun _ _ _ _ => rfl) rfl (fun u hu => absurd hu (Nat.not_lt_zero _))
  · refine Mt.go ok_Now_readFrom [10] 60 rfl ?_
    refine And.intro (fun _ => ?_) (fun e => absurd (by decide) e)
    exact key 0 (by omega) M (fun _ _ _ _ => rfl) rfl (fun u hu => absurd hu (Nat.not_lt_zero _))
theorem c_remember (hH : RH M) : Mt E (d + 1) m_History_remember [vP 8 0, vP 4 0] M (fun r M' => r = none ∧ M' = clR M) := by
  obtain ⟨⟨h1, h2⟩, h3, h4⟩ := hH
  refine Mt.go ok_History_remember [56] 60 rfl ?_
  refine qLt h1 rfl (by omega) (by omega) (fun q => absurd q (by omega)) (fun _ => ?_)
  refine qLt h1 rfl (by omega) (by omega) (fun _ => ?_) (fun q => absurd q (by omega))
  refine ix (hx M) (show _ < 10 by omega) h1 ?_
  refine xc d ok_Now_writeTo (c_writeTo E d M 10 (hx M) (Or.inl rfl)) (by omega) ?_
  rintro r N ⟨rfl, hN⟩
  have hN1 : N.1 8 0 1 = nI (hx M) := by rw [hN, setR_out (by omega)]; exact h1
  have hN2 : N.1 8 0 2 = nI (hz M) := by rw [hN, setR_out (by omega)]; exact h3
  have fin : ∀ v, v = nI (if hx M + 1 = 10 then 0 else hx M + 1) → Wp E (d + 1) m_History_remember 56 [some (vP 8 0), some (vP 4 0)] [vI v, vP 8 0] N (fun r M' => r = none ∧ M' = clR M) := by
    rintro v rfl
    refine go ok_History_remember [] 60 ?_
    refine And.intro rfl ?_
    unfold clR
    rw [← hN]
    have e : (if nI 10 < N.1 8 0 2 + nI 1 then nI 10 else N.1 8 0 2 + nI 1) = nI (min (hz M + 1) 10) := by
      rw [hN2, nI_add]
      by_cases c : 10 < hz M + 1
      · rw [if_pos ((nI_ltI (by omega) (by omega)).mpr c), Nat.min_eq_right (by omega)]
      · rw [if_neg (fun z => c ((nI_ltI (by omega) (by omega)).mp z)), Nat.min_eq_left (by omega)]
    rw [← e]; rfl
  have e1 : N.1 8 0 1 + nI 1 = nI (hx M + 1) := by rw [hN1, nI_add]
  refine qNe e1 rfl (by omega) (by omega) (fun c => ?_) (fun c => ?_)
  · refine fin _ ?_
    rw [if_neg c]; exact e1
  · refine fin _ ?_
    rw [if_pos c]
theorem c_takeBack (hH : RH M) (hz1 : 1 ≤ hz M) : Mt E (d + 1) m_History_takeBack [vP 8 0, vP 4 0] M (fun r M' => r = none ∧ RdP (sI (sI M 8 0 1 (nI (hxB M))) 8 0 2 (nI (hz M - 1))) M' 10 (hxB M)) := by
  obtain ⟨⟨h1, h2⟩, h3, h4⟩ := hH
  have hB : hxB M < 10 := by unfold hxB; split <;> omega
  refine Mt.go ok_History_takeBack [36] 60 rfl ?_
  have fin : ∀ v, v = nI (hxB M) → Wp E (d + 1) m_History_takeBack 36 [some (vP 8 0), some (vP 4 0)] [vI v, vP 8 0] M (fun r M' => r = none ∧ RdP (sI (sI M 8 0 1 (nI (hxB M))) 8 0 2 (nI (hz M - 1))) M' 10 (hxB M)) := by
    rintro v rfl
    refine go ok_History_takeBack [] 60 ?_
    have e2 : (sI M 8 0 1 (nI (hxB M))).1 8 0 2 - nI 1 = nI (hz M - 1) := by
      show M.1 8 0 2 - nI 1 = _
      rw [h3, nI_m1 hz1]
    refine ix (hxB M) (show _ < 10 by omega) rfl ?_
    have hx := c_readFrom E d (sI (sI M 8 0 1 (nI (hxB M))) 8 0 2 (nI (hz M - 1))) 10 (hxB M) (Or.inl rfl)
    rw [← e2] at hx
    refine xc d ok_Now_readFrom hx (by omega) ?_
    rintro r M' ⟨rfl, h⟩
    rw [e2] at h
    exact And.intro rfl h
  refine qNe h3 rfl (by omega) (by omega) (fun _ => ?_) (fun q => absurd q (by omega))
  refine qLe h1 rfl (by omega) (by omega) (fun c => ?_) (fun c => ?_)
  · refine fin _ ?_
    unfold hxB; rw [if_pos (by omega)]
  · refine qLt h1 rfl (by omega) (by omega) (fun _ => ?_) (fun q => absurd q (by omega))
    refine fin _ ?_
    show M.1 8 0 1 - nI 1 = _
    unfold hxB; rw [if_neg (by omega), h1, nI_m1 (by omega)]
end A1
