/-! the reference: border, near, heard; the acts -/
def setR (M : Me) (i r lo n : Nat) (f : Nat → Int32) : Me := (fun a b c => cond (Nat.beq a i && (Nat.beq b r && (Nat.ble lo c && Nat.blt c (lo + n)))) (f (c - lo)) (M.1 a b c), M.2)
theorem setR_0 (M : Me) (i r lo : Nat) (f : Nat → Int32) : setR M i r lo 0 f = M := by
  refine Prod.ext ?_ rfl
  funext a b c
  show cond _ _ _ = _
  have : (Nat.ble lo c && Nat.blt c (lo + 0)) = false := by
    cases h : (Nat.ble lo c && Nat.blt c (lo + 0)) with
    | false => rfl
    | true =>
      simp only [Bool.and_eq_true] at h
      have h1 := Nat.le_of_ble_eq_true h.1
      have h2 := Nat.blt_eq.mp h.2
      omega
  rw [this, Bool.and_false, Bool.and_false]; rfl
theorem setR_at {M : Me} {i r lo n : Nat} {f : Nat → Int32} {k : Nat} (h : k < n) : (setR M i r lo n f).1 i r (lo + k) = f k := by
  show cond (Nat.beq i i && (Nat.beq r r && (Nat.ble lo (lo + k) && Nat.blt (lo + k) (lo + n)))) (f (lo + k - lo)) _ = _
  have h1 : Nat.beq i i = true := Nat.beq_eq.mpr rfl
  have h2 : Nat.beq r r = true := Nat.beq_eq.mpr rfl
  have h3 : Nat.ble lo (lo + k) = true := Nat.ble_eq.mpr (by omega)
  have h4 : Nat.blt (lo + k) (lo + n) = true := Nat.blt_eq.mpr (by omega)
  rw [h1, h2, h3, h4]
  show f (lo + k - lo) = f k
  rw [Nat.add_sub_cancel_left]
theorem setR_out {M : Me} {i r lo n : Nat} {f : Nat → Int32} {a b c : Nat} (h : ¬ (a = i ∧ b = r ∧ lo ≤ c ∧ c < lo + n)) : (setR M i r lo n f).1 a b c = M.1 a b c := by
  show cond _ _ _ = _
  cases e : (Nat.beq a i && (Nat.beq b r && (Nat.ble lo c && Nat.blt c (lo + n)))) with
  | false => rfl
  | true =>
    simp only [Bool.and_eq_true] at e
    exact absurd ⟨Nat.beq_eq.mp e.1, Nat.beq_eq.mp e.2.1, Nat.le_of_ble_eq_true e.2.2.1, Nat.blt_eq.mp e.2.2.2⟩ h
theorem setR_step (M : Me) (i r lo k : Nat) (f : Nat → Int32) : sI (setR M i r lo k f) i r (lo + k) (f k) = setR M i r lo (k + 1) f := by
  refine Prod.ext ?_ rfl
  funext a b c
  show up3 (setR M i r lo k f).1 i r (lo + k) (f k) a b c = _
  by_cases h : a = i ∧ b = r ∧ c = lo + k
  · obtain ⟨rfl, rfl, rfl⟩ := h
    rw [up3_same, setR_at (by omega)]
  · rw [up3_ne h]
    by_cases h2 : a = i ∧ b = r ∧ lo ≤ c ∧ c < lo + k
    · obtain ⟨rfl, rfl, h3, h4⟩ := h2
      obtain ⟨j, rfl⟩ : ∃ j, c = lo + j := ⟨c - lo, by omega⟩
      rw [setR_at (by omega), setR_at (by omega)]
    · rw [setR_out h2, setR_out (fun z => by
        obtain ⟨z1, z2, z3, z4⟩ := z
        by_cases h5 : c = lo + k
        · exact h ⟨z1, z2, h5⟩
        · exact h2 ⟨z1, z2, z3, by omega⟩)]
def aBits (x : Int32) : Nat → Int32
  | 0 => nI 0
  | n + 1 => aBits x n + bI (bt x n)
def fin0 (N : Me) : Me := sI (sI N 60 0 1 (nI 0)) 60 0 2 (-(nI 1))
/-- how many acts can be undone -/
def acN (M : Me) : Nat := (M.1 60 0 29).toNatClampNeg
def RA (M : Me) : Prop := M.1 60 0 29 = nI (acN M) ∧ acN M ≤ 10
def rem9 (M : Me) : Me := setR (sI M 60 0 29 (nI 9)) 67 0 0 234 (fun k => M.1 67 0 (k + 26))
def remM (M : Me) : Me := bif decide (acN M = 10) then sI (setR (rem9 M) 67 0 234 26 (M.1 65 0)) 60 0 29 (nI 10) else sI (setR M 67 0 (acN M * 26) 26 (M.1 65 0)) 60 0 29 (nI (acN M + 1))
section R5
variable (E : EV) (d : Nat) (M : Me)
theorem r_bits (x : Int32) : Mt E d m_Mo_bits [vI x] M (RP (vI (aBits x 16)) M) := by
  refine Mt.go ok_Mo_bits [4] 60 rfl ?_
  have key : ∀ t, t ≤ 16 → ∀ z, z = aBits x t → Wp E d m_Mo_bits 4 [some (vI x), some (vI z), some (vI (nI t))] [] M (RP (vI (aBits x 16)) M) := by
    refine loopUp 16 ?_ ?_
    · intro z hz
      refine go ok_Mo_bits [4] 60 ?_
      exact cLe (by omega) (by omega) (fun _ => And.intro (by rw [hz]) rfl) (fun c => absurd c (by omega))
    · intro t hlt ih z hz
      refine go ok_Mo_bits [4] 60 ?_
      refine cLe (by omega) (by omega) (fun h => absurd h (by omega)) (fun _ => ?_)
      refine nm_r (nI_add _ _) (ih _ ?_)
      rw [hz, aBits, hasL x (by omega)]
  exact key 0 (Nat.zero_le _) _ rfl
theorem r_remembers (hA : RA M) : Mt E d m_Mo_remembers [vP 60 0] M (fun r M' => r = none ∧ M' = remM M) := by
  obtain ⟨ha, ha'⟩ := hA
  refine Mt.go ok_Mo_remembers [21, 55] 60 rfl ?_
  have key2 : ∀ (M1 : Me) (a : Nat), a ≤ 9 → M1.1 60 0 29 = nI a → sI (setR M1 67 0 (a * 26) 26 (M1.1 65 0)) 60 0 29 (nI (a + 1)) = remM M → ∀ k, k ≤ 26 → ∀ N, N = setR M1 67 0 (a * 26) k (M1.1 65 0) → Wp E d m_Mo_remembers 55 [some (vP 60 0), some (vI (nI k))] [] N (fun r M' => r = none ∧ M' = remM M) := by
    intro M1 a ha9 hM1 hfin
    refine loopUp 26 ?_ ?_
    · rintro N rfl
      refine go ok_Mo_remembers [21, 55] 60 ?_
      refine cLe (by omega) (by omega) (fun _ => ?_) (fun c => absurd c (by omega))
      refine And.intro rfl ?_
      rw [← hfin, ← nI_add, ← hM1]; rfl
    · rintro k hlt ih N rfl
      refine go ok_Mo_remembers [21, 55] 60 ?_
      refine cLe (by omega) (by omega) (fun h => absurd h (by omega)) (fun _ => ?_)
      refine ix k (show _ < 26 by omega) rfl ?_
      refine ix (a * 26 + k) (show _ < 260 by omega) ?_ ?_
      · have hM2 : (setR M1 67 0 (a * 26) k (M1.1 65 0)).1 60 0 29 = nI a := hM1
        rw [hM2, nI_mul, nI_s8]
      · refine nm_r (nI_add _ _) (ih _ ?_)
        exact setR_step M1 67 0 (a * 26) k (M1.1 65 0)
  have key1 : acN M = 10 → ∀ k, k ≤ 234 → ∀ N, N = setR (sI M 60 0 29 (nI 9)) 67 0 0 k (fun k => M.1 67 0 (k + 26)) → Wp E d m_Mo_remembers 21 [some (vP 60 0), some (vI (nI k))] [] N (fun r M' => r = none ∧ M' = remM M) := by
    intro h10
    refine loopUp 234 ?_ ?_
    · rintro N rfl
      refine go ok_Mo_remembers [21, 55] 60 ?_
      refine qLe (nI_mul 9 26) rfl (by omega) (by omega) (fun _ => ?_) (fun c => absurd c (by omega))
      refine key2 (rem9 M) 9 (by omega) rfl ?_ 0 (by omega) _ (setR_0 _ _ _ _ _).symm
      unfold remM
      rw [decide_eq_true h10]; rfl
    · rintro k hlt ih N rfl
      refine go ok_Mo_remembers [21, 55] 60 ?_
      refine qLe (nI_mul 9 26) rfl (by omega) (by omega) (fun h => absurd h (by omega)) (fun _ => ?_)
      refine ix (k + 26) (show _ < 260 by omega) (nI_s8 k 26) ?_
      refine ix k (show _ < 260 by omega) rfl ?_
      refine nm_r (nI_add _ _) (ih _ ?_)
      rw [← setR_step, Nat.zero_add]
      have e : (setR (sI M 60 0 29 (nI 9)) 67 0 0 k (fun k => M.1 67 0 (k + 26))).1 67 0 (k + 26) = M.1 67 0 (k + 26) := setR_out (fun z => by omega)
      rw [e]
  refine qNe ha rfl (by omega) (by omega) (fun h => ?_) (fun h => ?_)
  · refine key2 M (acN M) (by omega) ha ?_ 0 (by omega) _ (setR_0 _ _ _ _ _).symm
    unfold remM
    rw [decide_eq_false h]; rfl
  · refine key1 h 0 (by omega) _ ?_
    rw [setR_0]
    have e : M.1 60 0 29 - nI 1 = nI 9 := by rw [ha, h]; rfl
    show sI M 60 0 29 (M.1 60 0 29 - nI 1) = _
    rw [e]
end R5
