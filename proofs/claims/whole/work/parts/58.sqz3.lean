/-! the class: the squeezer -/
section S1
variable (E : EV) (d : Nat) {B : Me}
theorem c_thoseThatMust {N : Me} (n : Nat) (hP : PU B N n) (air m : Nat) (ha : ∀ t, bt (nI air) t = true → t < sN B) (h8 : sN B ≤ 8) (hm : m ≤ 10) (o : Nat → Nat) (ho : ∀ t, t < 8 → bt (nI air) t = true → N.1 25 0 t = nI (o t) ∧ 1 ≤ o t ∧ o t ≤ 10) : Mt E (d + 2) m_Squeezer_thoseThatMust [vP 23 0, vI (nI air), vI (nI m)] N (fun r M' => r = some (vI (mkS (fun t => bt (nI air) t && !Lm (aLst B) m t (o t - 1)) 8)) ∧ M' = bgM N (nI air) m) := by
  refine Mt.go ok_Squeezer_thoseThatMust [14] 60 rfl ?_
  refine xc (d + 1) ok_Packer_begin (c_begin E d N (nI air) m hm) (by omega) ?_
  rintro r M3 ⟨rfl, hM3⟩
  have hM3 : M3 = bgM N (nI air) m := hM3
  subst hM3
  have hA3 := bgM_a N (nI air) m
  have key : ∀ t, t ≤ 8 → ∀ x, x = mkS (fun t => bt (nI air) t && !Lm (aLst B) m t (o t - 1)) t → Wp E (d + 2) m_Squeezer_thoseThatMust 14 [some (vP 23 0), some (vI (nI air)), some (vI (nI m)), some (vI x), some (vI (nI t))] [] (bgM N (nI air) m) (fun r M' => r = some (vI (mkS (fun t => bt (nI air) t && !Lm (aLst B) m t (o t - 1)) 8)) ∧ M' = bgM N (nI air) m) := by
    refine loopUp 8 ?_ ?_
    · rintro x rfl
      refine go ok_Squeezer_thoseThatMust [] 60 ?_
      refine cLe (by omega) (by omega) (fun _ => ?_) (fun q => absurd q (by omega))
      exact And.intro rfl rfl
    · rintro t ht ih x rfl
      refine go ok_Squeezer_thoseThatMust [14] 60 ?_
      refine cLe (by omega) (by omega) (fun q => absurd q (by omega)) (fun _ => ?_)
      refine xq d ok_CS_has (c_has E d _ (nI air) t (by omega)) (by omega) ?_
      refine brF (fun q => ?_) (fun q => ?_)
      · refine nm_r (nI_add _ _) (ih _ ?_)
        rw [mkS, q]; rfl
      · obtain ⟨o1, o2, o3⟩ := ho t ht q
        refine ix 0 (show _ < 9 by omega) rfl ?_
        refine ix t (show _ < 8 by omega) rfl ?_
        refine ix t (show _ < 8 by omega) rfl ?_
        have hx := c_channelBit E d (bgM N (nI air) m) (o t) o2
        have eo : (bgM N (nI air) m).1 25 0 t = nI (o t) := by rw [hA3.1 25 0 t (by omega)]; exact o1
        rw [← eo] at hx
        refine xq d ok_CS_channelBit hx (by omega) ?_
        have el : bt ((bgM N (nI air) m).1 19 0 t) (o t - 1) = Lm (aLst B) m t (o t - 1) := bgM_lf hP ha hm ht q (o t - 1)
        refine And.intro (fun w => ?_) (fun w => ?_)
        · refine nm_r (nI_add _ _) (ih _ ?_)
          have : Lm (aLst B) m t (o t - 1) = true := by
            rw [← el]
            cases hz : bt ((bgM N (nI air) m).1 19 0 t) (o t - 1) with
            | true => rfl
            | false => exact absurd ((and_b1 (show o t - 1 < 32 by omega)).mpr hz) w
          rw [mkS, q, this]; rfl
        · refine xq d ok_CS_bit (c_bit E d _ t) (by omega) ?_
          refine nm_r (nI_add _ _) (ih _ ?_)
          have := (and_b1 (show o t - 1 < 32 by omega)).mp w
          rw [el] at this
          rw [mkS, q, this]; rfl
  exact key 0 (by omega) _ rfl
theorem c_isChoice (M : Me) (air must k c : Nat) (hk : k < 256) (hc : c < 100) : Mt E (d + 1) m_Squeezer_isChoice [vI (nI air), vI (nI must), vI (nI k), vI (nI c)] M (RP (vI (bI (subB k (nI air) && (subB must (nI k) && decide (cs8 (bt (nI k)) = c))))) M) := by
  refine Mt.go ok_Squeezer_isChoice [] 60 rfl ?_
  refine And.intro (fun w => ?_) (fun w => ?_)
  · refine And.intro (Or.inl rfl) (And.intro ?_ rfl)
    have : subB k (nI air) = false := decide_eq_false w
    rw [this]; rfl
  · have w : subB k (nI air) = true := decide_eq_true w
    refine And.intro (fun v => ?_) (fun v => ?_)
    · refine And.intro (Or.inl rfl) (And.intro ?_ rfl)
      have : subB must (nI k) = false := decide_eq_false v
      rw [this, Bool.false_and, Bool.and_false]; rfl
    · have v : subB must (nI k) = true := decide_eq_true v
      refine xq d ok_Integer_bitCount (c_bitCount E d M k (by omega)) (by omega) ?_
      rw [bits8 ⟨k, hk, rfl⟩]
      have h8 := cs8_le (bt (nI k))
      refine cNe (by omega) (by omega) (fun u => ?_) (fun u => ?_)
      · refine And.intro (Or.inl rfl) (And.intro ?_ rfl)
        rw [decide_eq_false u, Bool.and_false, Bool.and_false]; rfl
      · refine And.intro (Or.inr rfl) (And.intro ?_ rfl)
        rw [decide_eq_true u, w, v]; rfl
theorem c_holdAllBut {N : Me} (n : Nat) (hP : PU B N n) (air m k : Nat) (ha : ∀ t, bt (nI air) t = true → t < sN B) (h8 : sN B ≤ 8) (hm : m ≤ 10) (o : Nat → Nat) (ho : ∀ t, t < 8 → bt (nI air) t = true → N.1 25 0 t = nI (o t) ∧ 1 ≤ o t ∧ o t ≤ 10) : Mt E (d + 2) m_Squeezer_holdAllBut [vP 23 0, vI (nI k), vI (nI air), vI (nI m)] N (fun r M' => r = none ∧ A19 N M' ∧ ∀ t, t < 8 → bt (nI air) t = true → ∀ i, lfB M' 0 t i = Hd (Lm (aLst B) m) o (bt (nI k)) t i) := by
  refine Mt.go ok_Squeezer_holdAllBut [12] 60 rfl ?_
  refine xc (d + 1) ok_Packer_begin (c_begin E d N (nI air) m hm) (by omega) ?_
  rintro r M3 ⟨rfl, hM3⟩
  have hM3 : M3 = bgM N (nI air) m := hM3
  subst hM3
  have key : ∀ t, t ≤ 8 → ∀ N', A19 N N' → (∀ u, u < 8 → bt (nI air) u = true → ∀ i, lfB N' 0 u i = if u < t then Hd (Lm (aLst B) m) o (bt (nI k)) u i else Lm (aLst B) m u i) → Wp E (d + 2) m_Squeezer_holdAllBut 12 [some (vP 23 0), some (vI (nI k)), some (vI (nI air)), some (vI (nI m)), some (vI (nI t))] [] N' (fun r M' => r = none ∧ A19 N M' ∧ ∀ t, t < 8 → bt (nI air) t = true → ∀ i, lfB M' 0 t i = Hd (Lm (aLst B) m) o (bt (nI k)) t i) := by
    refine loopUp 8 ?_ ?_
    · intro N' hA hl
      refine go ok_Squeezer_holdAllBut [] 60 ?_
      refine cLe (by omega) (by omega) (fun _ => ?_) (fun q => absurd q (by omega))
      refine And.intro rfl ⟨hA, fun u hu hb i => ?_⟩
      rw [hl u hu hb i, if_pos hu]
    · intro t ht ih N' hA hl
      refine go ok_Squeezer_holdAllBut [12] 60 ?_
      refine cLe (by omega) (by omega) (fun q => absurd q (by omega)) (fun _ => ?_)
      refine xq d ok_CS_has (c_has E d _ _ t (by omega)) (by omega) ?_
      have eb : bt (nI air &&& (nI k ^^^ -(nI 1))) t = (bt (nI air) t && !bt (nI k) t) := by rw [b_and, b_not (by omega)]
      rw [eb]
      refine brF (fun q => ?_) (fun q => ?_)
      · refine nm_r (nI_add _ _) (ih N' hA (fun u hu hb i => ?_))
        rw [hl u hu hb i]
        by_cases e : u = t
        · subst e
          rw [hb, Bool.true_and] at q
          have q : bt (nI k) u = true := by simpa using q
          rw [if_neg (by omega), if_pos (by omega)]
          unfold Hd; rw [q, Bool.true_or, Bool.and_true]
        · by_cases e2 : u < t
          · rw [if_pos e2, if_pos (by omega)]
          · rw [if_neg e2, if_neg (by omega)]
      · rw [Bool.and_eq_true] at q
        have q2 : bt (nI k) t = false := by simpa using q.2
        obtain ⟨o1, o2, o3⟩ := ho t ht q.1
        refine ix t (show _ < 8 by omega) rfl ?_
        have hx := c_channelBit E d N' (o t) o2
        have eo : N'.1 25 0 t = nI (o t) := by rw [hA.1 25 0 t (by omega)]; exact o1
        rw [← eo] at hx
        refine xq d ok_CS_channelBit hx (by omega) ?_
        refine xc d ok_Packer_limit (c_limit E d N' t ht _) (by omega) ?_
        rintro r N2 ⟨rfl, rfl⟩
        refine nm_r (nI_add _ _) (ih _ (A19_sI hA) (fun u hu hb i => ?_))
        have hlu := hl u hu hb i
        unfold lfB at hlu ⊢
        rw [sI_at]
        by_cases e : u = t
        · subst e
          rw [if_pos ⟨rfl, rfl, rfl⟩, b_and, hlu, if_neg (by omega), if_pos (by omega)]
          unfold Hd
          rw [q2, Bool.false_or]
          rcases Nat.lt_or_ge i 32 with w | w
          · rw [b1_at (by omega) w]
          · rw [b_big w, decide_eq_false (by omega)]
        · rw [if_neg (fun z => e z.2.2), hlu]
          by_cases e2 : u < t
          · rw [if_pos e2, if_pos (by omega)]
          · rw [if_neg e2, if_neg (by omega)]
  refine key 0 (by omega) _ (bgM_a N (nI air) m) (fun u hu hb i => ?_)
  rw [if_neg (by omega)]
  exact bgM_lf hP ha hm hu hb i
theorem c_isAheadOfRow (M : Me) (air : Nat) (ρ ρ' : Nat → Nat) (h1 : ∀ t, t < 8 → bt (nI air) t = true → M.1 19 0 t = b1 (ρ' t - 1) ∧ 1 ≤ ρ' t ∧ ρ' t ≤ 10) (h2 : ∀ t, t < 8 → bt (nI air) t = true → M.1 24 0 t = nI (ρ t) ∧ ρ t ≤ 10) : Mt E (d + 2) m_Squeezer_isAheadOfRow [vP 23 0, vI (nI air)] M (fun r M' => ∃ b, r = some (vI (bI b)) ∧ M' = M ∧ (b = true → ∃ s, s < 8 ∧ bt (nI air) s = true ∧ (∀ t, t < s → bt (nI air) t = true → ρ t = ρ' t) ∧ ρ' s < ρ s) ∧ (b = false → (∀ t, t < 8 → bt (nI air) t = true → ρ' t = ρ t) ∨ ∃ s, s < 8 ∧ bt (nI air) s = true ∧ (∀ t, t < s → bt (nI air) t = true → ρ' t = ρ t) ∧ ρ s < ρ' s)) := by
  have key : ∀ t, t ≤ 8 → (∀ u, u < t → bt (nI air) u = true → ρ' u = ρ u) → Wp E (d + 2) m_Squeezer_isAheadOfRow 2 [some (vP 23 0), some (vI (nI air)), some (vI (nI t))] [] M (fun r M' => ∃ b, r = some (vI (bI b)) ∧ M' = M ∧ (b = true → ∃ s, s < 8 ∧ bt (nI air) s = true ∧ (∀ t, t < s → bt (nI air) t = true → ρ t = ρ' t) ∧ ρ' s < ρ s) ∧ (b = false → (∀ t, t < 8 → bt (nI air) t = true → ρ' t = ρ t) ∨ ∃ s, s < 8 ∧ bt (nI air) s = true ∧ (∀ t, t < s → bt (nI air) t = true → ρ' t = ρ t) ∧ ρ s < ρ' s)) := by
    refine loopUp 8 ?_ ?_
    · intro h
      refine go ok_Squeezer_isAheadOfRow [] 60 ?_
      refine cLe (by omega) (by omega) (fun _ => ?_) (fun q => absurd q (by omega))
      exact And.intro (Or.inl rfl) ⟨false, rfl, rfl, fun e => (by cases e), fun _ => Or.inl h⟩
    · intro t ht ih h
      refine go ok_Squeezer_isAheadOfRow [2] 60 ?_
      refine cLe (by omega) (by omega) (fun q => absurd q (by omega)) (fun _ => ?_)
      refine xq d ok_CS_has (c_has E d M (nI air) t (by omega)) (by omega) ?_
      refine brF (fun q => ?_) (fun q => ?_)
      · refine nm_r (nI_add _ _) (ih (fun u hu hb => ?_))
        by_cases e : u = t
        · rw [e, q] at hb; cases hb
        · exact h u (by omega) hb
      · obtain ⟨a1, a2, a3⟩ := h1 t ht q
        obtain ⟨b1', b2⟩ := h2 t ht q
        have hx := c_settledChannel E d M t (ρ' t) ht a2 a3 a1
        refine xq (d + 1) ok_Packer_settledChannel hx (by omega) ?_
        refine ix t (show _ < 8 by omega) rfl ?_
        refine qEq rfl b1' (by omega) (by omega) (fun w => ?_) (fun w => ?_)
        · refine nm_r (nI_add _ _) (ih (fun u hu hb => ?_))
          by_cases e : u = t
          · rw [e]; exact w
          · exact h u (by omega) hb
        · refine xq (d + 1) ok_Packer_settledChannel hx (by omega) ?_
          refine ix t (show _ < 8 by omega) rfl ?_
          refine qLe b1' rfl (by omega) (by omega) (fun v => ?_) (fun v => ?_)
          · exact And.intro (Or.inl rfl) ⟨false, rfl, rfl, fun e => (by cases e), fun _ => Or.inr ⟨t, ht, q, h, by omega⟩⟩
          · exact And.intro (Or.inr rfl) ⟨true, rfl, rfl, fun _ => ⟨t, ht, q, fun u hu hb => (h u hu hb).symm, v⟩, fun e => (by cases e)⟩
  refine Mt.go ok_Squeezer_isAheadOfRow [2] 60 rfl ?_
  exact key 0 (by omega) (fun u hu => absurd hu (Nat.not_lt_zero _))
theorem c_takeRow (M : Me) (air : Nat) (ρ' : Nat → Nat) (h1 : ∀ t, t < 8 → bt (nI air) t = true → M.1 19 0 t = b1 (ρ' t - 1) ∧ 1 ≤ ρ' t ∧ ρ' t ≤ 10) : Mt E (d + 2) m_Squeezer_takeRow [vP 23 0, vI (nI air)] M (fun r M' => r = none ∧ M' = setR M 24 0 0 8 (fun t => bif bt (nI air) t then nI (ρ' t) else M.1 24 0 t)) := by
  have key : ∀ t, t ≤ 8 → ∀ N, N = setR M 24 0 0 t (fun t => bif bt (nI air) t then nI (ρ' t) else M.1 24 0 t) → Wp E (d + 2) m_Squeezer_takeRow 2 [some (vP 23 0), some (vI (nI air)), some (vI (nI t))] [] N (fun r M' => r = none ∧ M' = setR M 24 0 0 8 (fun t => bif bt (nI air) t then nI (ρ' t) else M.1 24 0 t)) := by
    refine loopUp 8 ?_ ?_
    · rintro N rfl
      refine go ok_Squeezer_takeRow [] 60 ?_
      refine cLe (by omega) (by omega) (fun _ => ?_) (fun q => absurd q (by omega))
      exact And.intro rfl rfl
    · rintro t ht ih N rfl
      refine go ok_Squeezer_takeRow [2] 60 ?_
      refine cLe (by omega) (by omega) (fun q => absurd q (by omega)) (fun _ => ?_)
      refine xq d ok_CS_has (c_has E d _ (nI air) t (by omega)) (by omega) ?_
      refine brF (fun q => ?_) (fun q => ?_)
      · refine nm_r (nI_add _ _) (ih _ ?_)
        rw [← setR_step, Nat.zero_add, q, cond_false]
        refine Prod.ext ?_ rfl
        funext a b c
        show _ = up3 _ 24 0 t _ a b c
        by_cases e : a = 24 ∧ b = 0 ∧ c = t
        · obtain ⟨rfl, rfl, rfl⟩ := e
          rw [up3_same, setR_out (by omega)]
        · rw [up3_ne e]
      · obtain ⟨a1, a2, a3⟩ := h1 t ht q
        have hx := c_settledChannel E d (setR M 24 0 0 t (fun t => bif bt (nI air) t then nI (ρ' t) else M.1 24 0 t)) t (ρ' t) ht a2 a3 (by rw [setR_out (by omega)]; exact a1)
        refine xq (d + 1) ok_Packer_settledChannel hx (by omega) ?_
        refine ix t (show _ < 8 by omega) rfl ?_
        refine nm_r (nI_add _ _) (ih _ ?_)
        rw [← setR_step, Nat.zero_add, q]; rfl
  refine Mt.go ok_Squeezer_takeRow [2] 60 rfl ?_
  exact key 0 (by omega) _ (setR_0 _ _ _ _ _).symm
end S1
