/-! the class: order -/
theorem sqF_memb {c : (Nat → Nat) → Nat} {r : Nat → Nat} : ∀ (X : List (Nat → Nat)) (b : Option (Nat → Nat)), sqF c b X = some r → r ∈ X ∨ b = some r
  | [], b, h => Or.inr h
  | a :: X, b, h => by
    rw [sqF] at h
    rcases sqF_memb X _ h with q | q
    · exact Or.inl (List.mem_cons_of_mem _ q)
    · cases hc : decide (c a < lst c b) with
      | true => rw [hc] at q; cases q; exact Or.inl List.mem_cons_self
      | false => rw [hc] at q; exact Or.inr q
theorem aDist_sy (M : Me) (s c t e : Nat) : aDist M s c t e = aDist M t e s c := by
  unfold aDist
  rw [aClash_sy M s t, aBrush_sy M s t, show decide (c = e) = decide (e = c) from decide_eq_decide.mpr ⟨Eq.symm, Eq.symm⟩, Bool.or_comm]
def thG (o β : Nat → Nat) (g : Int32) : Nat → Nat := fun t => bif bt g t then β t else o t
theorem thG_up {o β : Nat → Nat} {g : Int32} {s : Nat} (hs : s < 32) : upN (thG o β g) s (β s) = thG o β (g ||| b1 s) := by
  funext t
  unfold upN thG
  rw [b_or]
  by_cases e : t = s
  · subst e
    rw [if_pos rfl, b1_at hs hs, decide_eq_true rfl, Bool.or_true]; rfl
  · rw [if_neg e]
    rcases Nat.lt_or_ge t 32 with w | w
    · rw [b1_at hs w, decide_eq_false e, Bool.or_false]
    · rw [b_big w, b_big w]; rfl
theorem uns_z {β θ : Nat → Nat} : ∀ (n : Nat), (∀ t, t < n → θ t = β t) → uns β θ n = 0
  | 0, _ => rfl
  | n + 1, h => by
    have := uns_z n (fun t ht => h t (by omega))
    unfold uns at this ⊢
    rw [sumN, this, decide_eq_true (h n (by omega))]; rfl
section O1
variable (E : EV) (d : Nat) {B : Me}
theorem c_mayGo {N : Me} (hC : CI B) (hF : FC B N) (β : Nat → Nat) (hβ : ∀ t, t < 8 → aS B t = true → N.1 24 0 t = nI (β t) ∧ β t ≤ 10) (g : Int32) (s : Nat) (hs : s < 8) (hS : aS B s = true) : Mt E (d + 2) m_Squeezer_mayGo [vP 23 0, vP 30 (pl B), vP 4 0, vI g, vI (nI s)] N (RP (vI (bI (quiet (aS B) (aDist B) β (sN B) (thG (oN B) β g) s))) N) := by
  obtain ⟨hX, hB, -, -, hN, -⟩ := id hC
  have h8 := hX.1.2.1.2
  have hCN := CI_fc hF hC
  have hpl : pl N = pl B := by show N.2.2 0 0 9 = B.2.2 0 0 9; rw [hF.2]
  have hWN : CWp N (pl B) := by rw [← hpl]; exact hCN.2.2.2.1
  have hsn := air_lt hB hS
  have hds : ∀ t c e, dsC N s c t e = (decide (t < sN B) && (!decide (t = s) && aDist B s c t e)) := fun t c e => by
    have : dsC N s c t e = dsC B s c t e := by rw [FC_eq hF]; rfl
    rw [this]
    unfold dsC
    rw [decide_eq_true hsn]; rfl
  have key : ∀ t, t ≤ 8 → (∀ u, u < t → u < sN B → (decide (u = s) || (!aS B u || !aDist B s (β s) u (thG (oN B) β g u))) = true) → ∀ j6, Wp E (d + 2) m_Squeezer_mayGo 17 [some (vP 23 0), some (vP 30 (pl B)), some (vP 4 0), some (vI g), some (vI (nI s)), some (vI (nI t)), j6] [] N (RP (vI (bI (quiet (aS B) (aDist B) β (sN B) (thG (oN B) β g) s))) N) := by
    refine loopUp 8 ?_ ?_
    · intro h j6
      refine go ok_Squeezer_mayGo [] 60 ?_
      refine cLe (by omega) (by omega) (fun _ => ?_) (fun q => absurd q (by omega))
      refine And.intro (Or.inr rfl) (And.intro ?_ rfl)
      have : quiet (aS B) (aDist B) β (sN B) (thG (oN B) β g) s = true := by
        unfold quiet
        exact all_t.mpr (fun u hu => h u (by omega) hu)
      rw [this]; rfl
    · intro t ht ih h j6
      refine go ok_Squeezer_mayGo [17, 50] 60 ?_
      refine cLe (by omega) (by omega) (fun q => absurd q (by omega)) (fun _ => ?_)
      have f50 : ∀ v, (aS B t = true → v = nI (thG (oN B) β g t) ∧ thG (oN B) β g t ≤ 10) → Wp E (d + 2) m_Squeezer_mayGo 50 [some (vP 23 0), some (vP 30 (pl B)), some (vP 4 0), some (vI g), some (vI (nI s)), some (vI (nI t)), j6] [vI v] N (RP (vI (bI (quiet (aS B) (aDist B) β (sN B) (thG (oN B) β g) s))) N) := by
        intro v hv
        refine go ok_Squeezer_mayGo [17] 60 ?_
        refine xq d ok_CS_has (c_has E d N _ t (by omega)) (by omega) ?_
        have ea : bt (N.1 4 0 3) t = aS B t := by rw [hF.1 4 0 3 rfl, hN.1]; rfl
        rw [ea]
        refine brF (fun q => ?_) (fun q => ?_)
        · refine nm_r (nI_add _ _) (ih (fun u hu hu2 => ?_) _)
          by_cases e : u = t
          · rw [e, q]; simp
          · exact h u (by omega) hu2
        · have htn := air_lt hB q
          obtain ⟨v1, v2⟩ := hv q
          obtain ⟨b1', b2⟩ := hβ s hs hS
          refine ix s (show _ < 8 by omega) rfl ?_
          have hx := c_disturb E d N hWN s (β s) t (thG (oN B) β g t) hs ht (by omega) (by omega)
          rw [← b1', ← v1] at hx
          refine xq (d + 1) ok_Plan_disturb hx (by omega) ?_
          rw [hds, decide_eq_true htn, Bool.true_and]
          refine brF (fun w => ?_) (fun w => ?_)
          · refine nm_r (nI_add _ _) (ih (fun u hu hu2 => ?_) _)
            by_cases e : u = t
            · subst e
              rw [q]
              cases hd : decide (u = s) with
              | true => rfl
              | false =>
                rw [hd, Bool.not_false, Bool.true_and] at w
                rw [w]; rfl
            · exact h u (by omega) hu2
          · refine And.intro (Or.inl rfl) (And.intro ?_ rfl)
            rw [Bool.and_eq_true] at w
            have : quiet (aS B) (aDist B) β (sN B) (thG (oN B) β g) s = false := by
              unfold quiet
              refine all_f.mpr ⟨t, htn, ?_⟩
              rw [q, w.2]
              have : decide (t = s) = false := by simpa using w.1
              rw [this]; rfl
            rw [this]; rfl
      refine xq d ok_CS_has (c_has E d N g t (by omega)) (by omega) ?_
      refine brF (fun q => ?_) (fun q => ?_)
      · refine ix t (show _ < 8 by omega) rfl ?_
        refine f50 _ (fun hSt => ?_)
        have htn := air_lt hB hSt
        obtain ⟨o1, o2, o3⟩ := hX.1.2.2.2 t htn
        unfold thG
        rw [q, cond_false]
        refine ⟨?_, o3⟩
        show N.1 5 0 t = _
        rw [hF.1 5 0 t rfl, (hN.2.2 t htn).1]; exact o1
      · refine ix t (show _ < 8 by omega) rfl ?_
        refine f50 _ (fun hSt => ?_)
        unfold thG
        rw [q, cond_true]
        exact hβ t ht hSt
  refine Mt.go ok_Squeezer_mayGo [17] 60 rfl ?_
  refine cLt (by omega) (by omega) (fun q => absurd q (by omega)) (fun _ => ?_)
  refine cLt (by omega) (by omega) (fun _ => ?_) (fun q => absurd q (by omega))
  exact key 0 (by omega) (fun u hu => absurd hu (Nat.not_lt_zero _)) none
theorem c_nextToGo {N : Me} (hC : CI B) (hF : FC B N) (β : Nat → Nat) (hβ : ∀ t, t < 8 → aS B t = true → N.1 24 0 t = nI (β t) ∧ β t ≤ 10) (hβ0 : ∀ t, aS B t = false → β t = oN B t) (hmv : N.1 23 0 4 = S32 (mvb (aS B) (oN B) β)) (g : Int32) : Mt E (d + 3) m_Squeezer_nextToGo [vP 23 0, vP 30 (pl B), vP 4 0, vI g] N (RP (vI (oI (lsq (fun s => !decide (thG (oN B) β g s = β s) && quiet (aS B) (aDist B) β (sN B) (thG (oN B) β g) s) 0 (sN B)))) N) := by
  obtain ⟨hX, hB, -, -, hN, -⟩ := id hC
  have h8 := hX.1.2.1.2
  have hbit : ∀ t, t < 8 → bt (N.1 23 0 4 &&& (g ^^^ -(nI 1))) t = (aS B t && !decide (thG (oN B) β g t = β t)) := fun t ht => by
    rw [b_and, b_not (by omega), hmv, S32_at (by omega)]
    unfold mvb thG
    cases hS : aS B t with
    | false => rfl
    | true =>
      cases hg : bt g t with
      | true => simp
      | false =>
        rw [cond_false, show decide (β t = oN B t) = decide (oN B t = β t) from decide_eq_decide.mpr ⟨Eq.symm, Eq.symm⟩]
        simp
  generalize hf : (fun s => !decide (thG (oN B) β g s = β s) && quiet (aS B) (aDist B) β (sN B) (thG (oN B) β g) s) = f
  have hff : ∀ s, f s = (!decide (thG (oN B) β g s = β s) && quiet (aS B) (aDist B) β (sN B) (thG (oN B) β g) s) := fun s => by rw [← hf]
  have key : ∀ t, t ≤ 8 → lsq f 0 (sN B) = lsq f t (sN B - t) → Wp E (d + 3) m_Squeezer_nextToGo 3 [some (vP 23 0), some (vP 30 (pl B)), some (vP 4 0), some (vI g), some (vI (nI t))] [] N (RP (vI (oI (lsq f 0 (sN B)))) N) := by
    refine loopUp 8 ?_ ?_
    · intro e
      refine go ok_Squeezer_nextToGo [] 60 ?_
      refine cLe (by omega) (by omega) (fun _ => ?_) (fun q => absurd q (by omega))
      refine And.intro ?_ rfl
      rw [e, show sN B - 8 = 0 by omega]; rfl
    · intro t ht ih e
      have stp : (t < sN B → f t = false) → lsq f 0 (sN B) = lsq f (t + 1) (sN B - (t + 1)) := by
        intro h
        rcases Nat.lt_or_ge t (sN B) with w | w
        · rw [e, show sN B - t = (sN B - (t + 1)) + 1 by omega, lsq, h w]; rfl
        · rw [e, show sN B - t = 0 by omega, show sN B - (t + 1) = 0 by omega]; rfl
      refine go ok_Squeezer_nextToGo [3] 60 ?_
      refine cLe (by omega) (by omega) (fun q => absurd q (by omega)) (fun _ => ?_)
      refine xq d ok_CS_has (c_has E d N _ t (by omega)) (by omega) ?_
      rw [hbit t ht]
      refine brF (fun q => ?_) (fun q => ?_)
      · refine nm_r (nI_add _ _) (ih (stp (fun _ => ?_)))
        rw [hff]
        cases hS : aS B t with
        | true => rw [hS, Bool.true_and] at q; rw [q]; rfl
        | false =>
          have : thG (oN B) β g t = β t := by
            unfold thG
            rw [hβ0 t hS]
            cases bt g t <;> rfl
          rw [decide_eq_true this]; rfl
      · rw [Bool.and_eq_true] at q
        have htn := air_lt hB q.1
        refine xq (d + 2) ok_Squeezer_mayGo (c_mayGo E d hC hF β hβ g t ht q.1) (by omega) ?_
        refine brF (fun w => ?_) (fun w => ?_)
        · refine nm_r (nI_add _ _) (ih (stp (fun _ => ?_)))
          rw [hff, w, Bool.and_false]
        · refine And.intro ?_ rfl
          rw [e, show sN B - t = (sN B - (t + 1)) + 1 by omega, lsq, hff, q.2, w]; rfl
  refine Mt.go ok_Squeezer_nextToGo [3] 60 rfl ?_
  exact key 0 (by omega) rfl
def SeqP (N : Me) (o : Option (List Nat)) : Prop := match o with
  | none => N.1 23 0 5 = nI 0
  | some l => N.1 23 0 5 = nI l.length ∧ l.length ≤ 8 ∧ ∀ i, i < l.length → N.1 26 0 i = nI (l.getD i 0)
theorem c_findSequence {N : Me} (n : Nat) (hC : CI B) (hF : FC B N) (hP : PU B N n) (β : Nat → Nat) (hβ : ∀ t, t < 8 → aS B t = true → N.1 24 0 t = nI (β t) ∧ β t ≤ 10) (hβ0 : ∀ t, aS B t = false → β t = oN B t) (hmv : N.1 23 0 4 = S32 (mvb (aS B) (oN B) β)) : Mt E (d + 4) m_Squeezer_findSequence [vP 23 0, vP 30 (pl B), vP 4 0] N (fun r M' => r = none ∧ FC B M' ∧ PU B M' n ∧ SeqP M' (gdy (aS B) (aDist B) β (sN B) (uns β (oN B) (sN B)) (oN B))) := by
  obtain ⟨hX, hB, -, -, hN, -⟩ := id hC
  have h8 := hX.1.2.1.2
  have hth0 : thG (oN B) β (nI 0) = oN B := by funext t; unfold thG; rw [b_0]; rfl
  have hK8 : uns β (oN B) (sN B) ≤ 8 := by
    have := sum10 (fun t => !decide (oN B t = β t)) (sN B)
    unfold uns; omega
  generalize hG : gdy (aS B) (aDist B) β (sN B) (uns β (oN B) (sN B)) (oN B) = G
  have key : ∀ i, i ≤ 8 → ∀ (N' : Me) (g : Int32) (l0 : List Nat) (k : Nat), FC B N' → PU B N' n → (∀ t, t < 8 → aS B t = true → N'.1 24 0 t = nI (β t) ∧ β t ≤ 10) → N'.1 23 0 4 = S32 (mvb (aS B) (oN B) β) → (∀ t, t < 32 → bt g t = true → mvb (aS B) (oN B) β t = true) → l0.length = i → k + i = uns β (oN B) (sN B) → uns β (thG (oN B) β g) (sN B) = k → G = (gdy (aS B) (aDist B) β (sN B) k (thG (oN B) β g)).map (l0 ++ ·) → N'.1 23 0 5 = nI i → (∀ j, j < i → N'.1 26 0 j = nI (l0.getD j 0)) → ∀ j5, Wp E (d + 4) m_Squeezer_findSequence 10 [some (vP 23 0), some (vP 30 (pl B)), some (vP 4 0), some (vI g), some (vI (nI i)), j5] [] N' (fun r M' => r = none ∧ FC B M' ∧ PU B M' n ∧ SeqP M' G) := by
    have done : ∀ i, i ≤ 8 → ∀ (N' : Me) (g : Int32) (l0 : List Nat), FC B N' → PU B N' n → l0.length = i → G = (gdy (aS B) (aDist B) β (sN B) 0 (thG (oN B) β g)).map (l0 ++ ·) → N'.1 23 0 5 = nI i → (∀ j, j < i → N'.1 26 0 j = nI (l0.getD j 0)) → (none : Option AV) = none ∧ FC B N' ∧ PU B N' n ∧ SeqP N' G := by
      intro i hi N' g l0 h1 h2 h3 h4 h5 h6
      have : G = some l0 := by rw [h4, gdy]; simp
      refine ⟨rfl, h1, h2, ?_⟩
      rw [this]
      exact ⟨by rw [h3]; exact h5, by omega, fun j hj => h6 j (by omega)⟩
    refine loopUp 8 ?_ ?_
    · intro N' g l0 k h1 h2 h3 h4 h5 h6 h7 h8' h9 h10 h11 j5
      have hk : k = 0 := by omega
      subst hk
      refine go ok_Squeezer_findSequence [] 60 ?_
      refine cLe (by omega) (by omega) (fun _ => ?_) (fun q => absurd q (by omega))
      exact done 8 (by omega) N' g l0 h1 h2 h6 h9 h10 h11
    · intro i hi ih N' g l0 k h1 h2 h3 h4 h5 h6 h7 h8' h9 h10 h11 j5
      refine go ok_Squeezer_findSequence [10] 60 ?_
      refine cLe (by omega) (by omega) (fun q => absurd q (by omega)) (fun _ => ?_)
      refine And.intro (fun w => ?_) (fun w => ?_)
      · have w : g = N'.1 23 0 4 := w
        have hk : k = 0 := by
          rw [← h8']
          refine uns_z _ (fun t ht => ?_)
          unfold thG
          rw [w, h4, S32_at (by omega)]
          unfold mvb
          cases hS : aS B t with
          | false => rw [Bool.false_and, cond_false, hβ0 t hS]
          | true =>
            by_cases e : β t = oN B t
            · rw [decide_eq_true e, e]; rfl
            · rw [decide_eq_false e]; rfl
        subst hk
        exact done i (by omega) N' g l0 h1 h2 h6 h9 h10 h11
      · have w : ¬ g = N'.1 23 0 4 := w
        have hk : 1 ≤ k := by
          rcases Nat.eq_zero_or_pos k with e | e
          · exfalso
            refine w ?_
            rw [h4]
            refine S32_eq fun t ht => ?_
            cases hg : bt g t with
            | true => exact (h5 t ht hg).symm
            | false =>
              unfold mvb
              cases hS : aS B t with
              | false => rfl
              | true =>
                have := uns_0 (h8'.trans e) (air_lt hB hS)
                unfold thG at this
                rw [hg, cond_false] at this
                rw [this, decide_eq_true rfl]; rfl
          · exact e
        obtain ⟨k', rfl⟩ : ∃ k', k = k' + 1 := ⟨k - 1, by omega⟩
        refine xq (d + 3) ok_Squeezer_nextToGo (c_nextToGo E d hC h1 β h3 hβ0 h4 g) (by omega) ?_
        rw [gdy] at h9
        cases hl : lsq (fun s => !decide (thG (oN B) β g s = β s) && quiet (aS B) (aDist B) β (sN B) (thG (oN B) β g) s) 0 (sN B) with
        | none =>
          rw [hl] at h9
          refine And.intro (fun e => absurd rfl e) (fun _ => ?_)
          have hGn : G = none := h9
          rw [hGn]
          refine And.intro rfl ⟨FC_sI h1 rfl, PU_o h2 (fun i i1 i2 => by funext r k; rw [sI_at, if_neg (by omega)]), ?_⟩
          show (sI N' 23 0 5 (nI 0)).1 23 0 5 = nI 0
          rw [sI_at, if_pos ⟨rfl, rfl, rfl⟩]
        | some s =>
          rw [hl] at h9
          obtain ⟨s1, s2, s3, -⟩ := lsq_some _ _ _ hl
          rw [Bool.and_eq_true] at s3
          have hne : ¬ thG (oN B) β g s = β s := by simpa using s3.1
          have hgs : bt g s = false := by
            cases hb : bt g s with
            | false => rfl
            | true => unfold thG at hne; rw [hb] at hne; exact absurd rfl hne
          have hmvs : mvb (aS B) (oN B) β s = true := by
            unfold thG at hne
            rw [hgs, cond_false] at hne
            unfold mvb
            cases hS : aS B s with
            | false => rw [hβ0 s hS] at hne; exact absurd rfl hne
            | true => rw [decide_eq_false (fun e => hne e.symm)]; rfl
          refine And.intro (fun _ => ?_) (fun e => absurd e (nI_ne_m (show s < 2 ^ 31 by omega) (by omega) (by omega)))
          refine ix i (show _ < 8 by omega) rfl ?_
          refine xq d ok_CS_bit (c_bit E d _ s) (by omega) ?_
          refine nm_r (nI_add _ _) ?_
          have hu := uns_up hne (sN B)
          rw [if_pos (by omega), thG_up (by omega)] at hu
          have hnx := ih (sI (sI N' 26 0 i (nI s)) 23 0 5 (nI i + nI 1)) (g ||| b1 s) (l0 ++ [s]) k' (FC_sI (FC_sI h1 rfl) rfl) (PU_o h2 (fun i i1 i2 => by funext r k; rw [sI_at, if_neg (by omega), sI_at, if_neg (by omega)])) (fun t ht hS => by rw [sI_at, if_neg (by omega), sI_at, if_neg (by omega)]; exact h3 t ht hS) (by rw [sI_at, if_neg (by omega), sI_at, if_neg (by omega)]; exact h4) (fun t ht hb => by
            rw [b_or, b1_at (by omega) ht] at hb
            by_cases e : t = s
            · rw [e]; exact hmvs
            · rw [decide_eq_false e, Bool.or_false] at hb
              exact h5 t ht hb) (by rw [List.length_append, h6]; rfl) (by omega) (by omega) (by
            rw [h9, ← thG_up (by omega)]
            dsimp only
            cases gdy (aS B) (aDist B) β (sN B) k' (upN (thG (oN B) β g) s (β s)) with
            | none => rfl
            | some l => simp) (by rw [sI_at, if_pos ⟨rfl, rfl, rfl⟩, nI_add]) (fun j hj => by
            rw [sI_at, if_neg (by omega), sI_at]
            by_cases e : j = i
            · rw [if_pos ⟨rfl, rfl, e⟩, e, ← h6]
              simp
            · rw [if_neg (fun z => e z.2.2), h11 j (by omega)]
              congr 1
              rw [List.getD_eq_getElem?_getD, List.getD_eq_getElem?_getD, List.getElem?_append_left (by omega)]) (some (vI (nI s)))
          exact hnx
  refine Mt.go ok_Squeezer_findSequence [10] 60 rfl ?_
  exact key 0 (by omega) (sI N 23 0 5 (nI 0)) (nI 0) [] (uns β (oN B) (sN B)) (FC_sI hF rfl) (PU_o hP (fun i i1 i2 => by funext r k; rw [sI_at, if_neg (by omega)])) (fun t ht hS => by rw [sI_at, if_neg (by omega)]; exact hβ t ht hS) (by rw [sI_at, if_neg (by omega)]; exact hmv) (fun t ht hb => by rw [b_0] at hb; cases hb) rfl rfl (by rw [hth0]) (by rw [hth0, hG]; simp) (by rw [sI_at, if_pos ⟨rfl, rfl, rfl⟩]) (fun j hj => absurd hj (Nat.not_lt_zero _)) none
end O1
