/-! the reference: rows from a station on -/
def res (S : Nat → Bool) (n : Nat) (r : Nat → Nat) : Nat → Nat := fun t => bif S t && decide (t < n) then r t else 0
def exr (S : Nat → Bool) (L : Nat → Nat → Bool) (D : Nat → Nat → Nat → Nat → Bool) (m n k s : Nat) (ρ : Nat → Nat) : List (Nat → Nat) := (ext S L D m k s ρ).map (res S n)
theorem exr_cg {S : Nat → Bool} {L : Nat → Nat → Bool} {D : Nat → Nat → Nat → Nat → Bool} {m n : Nat} : ∀ (k s : Nat) (ρ ρ' : Nat → Nat), s + k = n → (∀ t, t < s → S t = true → ρ t = ρ' t) → exr S L D m n k s ρ = exr S L D m n k s ρ'
  | 0, s, ρ, ρ', hn, h => by
    unfold exr
    rw [ext, ext, List.map_cons, List.map_cons, List.map_nil]
    congr 1
    funext t
    unfold res
    cases hS : S t
    · rfl
    · by_cases ht : t < n
      · rw [h t (by omega) hS]
      · rw [decide_eq_false ht]; rfl
  | k + 1, s, ρ, ρ', hn, h => by
    unfold exr
    rw [ext, ext]
    cases hS : S s
    · rw [cond_false, cond_false]
      exact exr_cg k (s + 1) ρ ρ' (by omega) (fun t ht hs => h t (by
        by_cases e : t = s
        · subst e; rw [hS] at hs; cases hs
        · omega) hs)
    · rw [cond_true, cond_true, List.map_flatMap, List.map_flatMap]
      congr 1
      funext c
      rw [okC_cg (ρ' := ρ') h]
      cases okC S L D s (c + 1) ρ'
      · rfl
      · rw [cond_true, cond_true]
        refine exr_cg k (s + 1) _ _ (by omega) (fun t ht hs => ?_)
        by_cases e : t = s
        · subst e; rw [upN_same, upN_same]
        · rw [upN_ne e, upN_ne e]; exact h t (by omega) hs
def RR (M : Me) (ρ : Nat → Nat) : Prop := ∀ t, t < 8 → M.1 70 0 t = nI (ρ t) ∧ ρ t ≤ 10
theorem okC_pre {S : Nat → Bool} {L : Nat → Nat → Bool} {D : Nat → Nat → Nat → Nat → Bool} {s c : Nat} {ρ : Nat → Nat} {t : Nat} (ht : t ≤ s) (h : (L s (c - 1) && (List.range t).all (fun t => !(S t && D s c t (ρ t)))) = false) : okC S L D s c ρ = false := by
  unfold okC
  cases hL : L s (c - 1)
  · rfl
  · rw [hL, Bool.true_and] at h
    rw [Bool.true_and]
    obtain ⟨j, hj, h2⟩ := all_f.mp h
    exact all_f.mpr ⟨j, by omega, h2⟩
section R8
variable (E : EV) (d : Nat) (M : Me)
theorem r_mayStand (hR : RW M) {ρ : Nat → Nat} (hr : RR M ρ) (set : Int32) (s c : Nat) (hs : s < 8) (hc0 : 0 < c) (hc : c ≤ 10) : Mt E (d + 3) m_Mo_mayStand [vP 60 0, vI set, vI (nI s), vI (nI c)] M (RP (vI (bI (okC (bt set) (aLst M) (aDist M) s c ρ))) M) := by
  refine Mt.go ok_Mo_mayStand [16] 60 rfl ?_
  have key : ∀ t, t ≤ s → ∀ b, b = (aLst M s (c - 1) && (List.range t).all (fun t => !(bt set t && aDist M s c t (ρ t)))) → Wp E (d + 3) m_Mo_mayStand 16 [some (vP 60 0), some (vI set), some (vI (nI s)), some (vI (nI c)), some (vI (bI b)), some (vI (nI t))] [] M (RP (vI (bI (okC (bt set) (aLst M) (aDist M) s c ρ))) M) := by
    refine loopUp s ?_ ?_
    · intro b hb
      refine go ok_Mo_mayStand [16] 60 ?_
      refine brF (fun h => ?_) (fun h => ?_)
      · exact And.intro (bI_or _) (And.intro (by rw [h]; rw [h] at hb; rw [okC_pre (Nat.le_refl s) hb.symm]) rfl)
      · refine cLe (by omega) (by omega) (fun _ => ?_) (fun q => absurd q (by omega))
        exact And.intro (bI_or _) (And.intro (by rw [hb]; rfl) rfl)
    · intro t hlt ih b hb
      refine go ok_Mo_mayStand [16] 60 ?_
      refine brF (fun h => ?_) (fun h => ?_)
      · exact And.intro (bI_or _) (And.intro (by rw [h]; rw [h] at hb; rw [okC_pre (Nat.le_of_lt hlt) hb.symm]) rfl)
      · rw [h] at hb
        refine cLe (by omega) (by omega) (fun q => absurd q (by omega)) (fun _ => ?_)
        refine xq d ok_Mo_has (r_has E d _ _ t (by omega)) (by omega) ?_
        refine brF (fun h1 => ?_) (fun h1 => ?_)
        · refine nm_r (nI_add _ _) (ih true ?_)
          rw [all_succ, ← Bool.and_assoc, ← hb, h1]; rfl
        · refine ix t (show _ < 8 by omega) rfl ?_
          obtain ⟨hr1, hr2⟩ := hr t (by omega)
          refine xq (d + 2) ok_Mo_disturb (by rw [hr1]; exact r_disturb E d M s c t (ρ t) (by omega) (by omega) (by omega) (by omega)) (by omega) ?_
          refine brN (fun h2 => ?_) (fun h2 => ?_)
          · refine nm_r (nI_add _ _) (ih false ?_)
            rw [all_succ, ← Bool.and_assoc, ← hb, h1, h2]; rfl
          · refine nm_r (nI_add _ _) (ih true ?_)
            rw [all_succ, ← Bool.and_assoc, ← hb, h1, h2]; rfl
  refine xq (d + 2) ok_Mo_list (r_list E d M hR s hs) (by omega) ?_
  refine xq d ok_Mo_has (by rw [nI_m1 hc0]; exact r_has E d M _ (c - 1) (by omega)) (by omega) ?_
  rw [S32_at (by omega)]
  exact key 0 (Nat.zero_le _) _ (by simp)
theorem r_isOpen (hR : RW M) {ρ : Nat → Nat} (hr : RR M ρ) (set : Int32) (m s : Nat) (hsn : s < sN M) (hm : m ≤ 10) : Mt E (d + 3) m_Mo_isOpen [vP 60 0, vI set, vI (nI m), vI (nI s)] M (RP (vI (bI (opA (bt set) (aLst M) (aDist M) (sN M) m s ρ))) M) := by
  obtain ⟨⟨hc, hc'⟩, ⟨hn, hn'⟩, ⟨hb, hb'⟩, ho⟩ := id hR
  have hs : s < 8 := by omega
  refine Mt.go ok_Mo_isOpen [8, 48, 73] 60 rfl ?_
  generalize hS : bt set = S
  generalize hL : aLst M = L
  generalize hD : aDist M = D
  generalize hQ : (RP (vI (bI (opA S L D (sN M) m s ρ))) M : Option AV → Me → Prop) = Q
  -- the innermost loop: a channel c for t, against those up to s
  have key3 : ∀ (t c : Nat) (lst : Int32), t < 8 → c < m → (∀ b k, b = opC S L D s t (c + 1) ρ → Wp E (d + 3) m_Mo_isOpen 126 [some (vP 60 0), some (vI set), some (vI (nI m)), some (vI (nI s)), some (vI (bI b)), some (vI (nI t)), some (vI lst), some (vI (nI (c + 1))), some (vI (nI k))] [] M Q) → ∀ k, k ≤ s + 1 → ∀ b, b = (L t c && (List.range k).all (fun k => !(S k && D t (c + 1) k (ρ k)))) → Wp E (d + 3) m_Mo_isOpen 73 [some (vP 60 0), some (vI set), some (vI (nI m)), some (vI (nI s)), some (vI (bI b)), some (vI (nI t)), some (vI lst), some (vI (nI (c + 1))), some (vI (nI k))] [] M Q := by
    intro t c lst ht hcm hk
    refine loopUp (s + 1) ?_ ?_
    · intro b hb
      refine go ok_Mo_isOpen [126] 60 ?_
      refine brF (fun h => ?_) (fun h => ?_)
      · refine hk b (s + 1) ?_
        rw [hb]; rfl
      · refine cLt (by omega) (by omega) (fun _ => ?_) (fun q => absurd q (by omega))
        refine hk b (s + 1) ?_
        rw [hb]; rfl
    · intro k hlt ih b hb
      have hpre : b = false → false = opC S L D s t (c + 1) ρ := by
        intro h
        rw [h] at hb
        unfold opC
        rw [Nat.add_sub_cancel]
        cases hl : L t c
        · rfl
        · rw [hl, Bool.true_and] at hb
          obtain ⟨j, hj, h2⟩ := all_f.mp hb.symm
          exact (all_f.mpr ⟨j, by omega, h2⟩).symm
      refine go ok_Mo_isOpen [73, 126] 60 ?_
      refine brF (fun h => ?_) (fun h => ?_)
      · refine hk b k ?_
        rw [h]; exact hpre h
      · rw [h] at hb
        refine cLt (by omega) (by omega) (fun q => absurd q (by omega)) (fun _ => ?_)
        refine xq d ok_Mo_has (r_has E d _ _ k (by omega)) (by omega) ?_
        rw [hS]
        refine brF (fun h1 => ?_) (fun h1 => ?_)
        · refine nm_r (nI_add _ _) (ih true ?_)
          rw [all_succ, ← Bool.and_assoc, ← hb, h1]; rfl
        · refine ix k (show _ < 8 by omega) rfl ?_
          obtain ⟨hr1, hr2⟩ := hr k (by omega)
          refine xq (d + 2) ok_Mo_disturb (by rw [hr1]; exact r_disturb E d M t (c + 1) k (ρ k) (by omega) (by omega) (by omega) (by omega)) (by omega) ?_
          rw [hD]
          refine brN (fun h2 => ?_) (fun h2 => ?_)
          · refine nm_r (nI_add _ _) (ih false ?_)
            rw [all_succ, ← Bool.and_assoc, ← hb, h1, h2]; rfl
          · refine nm_r (nI_add _ _) (ih true ?_)
            rw [all_succ, ← Bool.and_assoc, ← hb, h1, h2]; rfl
  -- the middle loop: some channel for t
  have key2 : ∀ (t : Nat), t < 8 → (∀ b c j8, b = opT S L D m s t ρ → Wp E (d + 3) m_Mo_isOpen 132 [some (vP 60 0), some (vI set), some (vI (nI m)), some (vI (nI s)), some (vI (bI b)), some (vI (nI t)), some (vI (S32 (L t))), some (vI c), j8] [] M Q) → ∀ c, c ≤ m → ∀ b j8, b = (List.range c).any (fun c => opC S L D s t (c + 1) ρ) → Wp E (d + 3) m_Mo_isOpen 48 [some (vP 60 0), some (vI set), some (vI (nI m)), some (vI (nI s)), some (vI (bI b)), some (vI (nI t)), some (vI (S32 (L t))), some (vI (nI (c + 1))), j8] [] M Q := by
    intro t ht hk
    refine loopUp m ?_ ?_
    · intro b j8 hb
      refine go ok_Mo_isOpen [132] 60 ?_
      refine brN (fun h => ?_) (fun h => ?_)
      · exact hk b _ j8 (by rw [hb]; rfl)
      · refine cLt (by omega) (by omega) (fun _ => ?_) (fun q => absurd q (by omega))
        exact hk b _ j8 (by rw [hb]; rfl)
    · intro c hlt ih b j8 hb
      refine go ok_Mo_isOpen [73, 132] 60 ?_
      refine brN (fun h => ?_) (fun h => ?_)
      · refine hk b _ j8 ?_
        rw [h] at hb
        obtain ⟨j, hj, h2⟩ := any_t.mp hb.symm
        rw [h]
        exact (any_t.mpr ⟨j, by omega, h2⟩).symm
      · rw [h] at hb
        refine cLt (by omega) (by omega) (fun q => absurd q (by omega)) (fun _ => ?_)
        refine xq d ok_Mo_has (by rw [nI_sub1]; exact r_has E d M _ c (by omega)) (by omega) ?_
        rw [S32_at (by omega)]
        refine key3 t c (S32 (L t)) ht hlt ?_ 0 (Nat.zero_le _) _ (by simp)
        intro b' k hb'
        refine go ok_Mo_isOpen [48] 60 ?_
        refine nm_r (nI_add _ _) (ih b' _ ?_)
        rw [any_succ, ← hb, hb']; rfl
  have key1 : ∀ t, t ≤ sN M → s < t ∨ t = sN M → ∀ b j6 j7 j8, b = (List.range t).all (fun t => !(decide (s < t) && S t) || opT S L D m s t ρ) → Wp E (d + 3) m_Mo_isOpen 8 [some (vP 60 0), some (vI set), some (vI (nI m)), some (vI (nI s)), some (vI (bI b)), some (vI (nI t)), j6, j7, j8] [] M Q := by
    refine loopUp (sN M) ?_ ?_
    · intro _ b j6 j7 j8 hb
      refine go ok_Mo_isOpen [8] 60 ?_
      rw [← hQ]
      refine brF (fun h => ?_) (fun h => ?_)
      · exact And.intro (bI_or _) (And.intro (by rw [hb]; rfl) rfl)
      · refine qLe hn rfl (by omega) (by omega) (fun _ => ?_) (fun q => absurd q (by omega))
        exact And.intro (bI_or _) (And.intro (by rw [hb]; rfl) rfl)
    · intro t hlt ih hst b j6 j7 j8 hb
      have hst : s < t := by omega
      refine go ok_Mo_isOpen [8, 48] 60 ?_
      refine brF (fun h => ?_) (fun h => ?_)
      · rw [← hQ]
        refine And.intro (bI_or _) (And.intro ?_ rfl)
        rw [h]; rw [h] at hb
        obtain ⟨j, hj, h2⟩ := all_f.mp hb.symm
        rw [show opA S L D (sN M) m s ρ = false from all_f.mpr ⟨j, by omega, h2⟩]
      · rw [h] at hb
        refine qLe hn rfl (by omega) (by omega) (fun q => absurd q (by omega)) (fun _ => ?_)
        refine xq d ok_Mo_has (r_has E d _ _ t (by omega)) (by omega) ?_
        rw [hS]
        refine brN (fun h1 => ?_) (fun h1 => ?_)
        · refine xq (d + 2) ok_Mo_list (r_list E d M hR t (by omega)) (by omega) ?_
          rw [hL]
          refine key2 t (by omega) ?_ 0 (Nat.zero_le _) false _ rfl
          intro b' c j8' hb'
          refine go ok_Mo_isOpen [8] 60 ?_
          refine nm_r (nI_add _ _) (ih (by omega) b' _ _ _ ?_)
          rw [all_succ, ← hb, hb', decide_eq_true hst, h1]; rfl
        · refine nm_r (nI_add _ _) (ih (by omega) b _ _ _ ?_)
          rw [h, all_succ, ← hb, h1, Bool.and_false]; rfl
  have h0 := key1 (s + 1) hsn (Or.inl (by omega)) true none none none (by
    refine (all_t.mpr (fun t ht => ?_)).symm
    rw [decide_eq_false (by omega)]; rfl)
  rw [← nI_add s 1] at h0
  exact h0
end R8
