/-! the class: steps -/
def stp3 (q : Nat × Nat × (Nat → Nat)) : Nat → Nat := q.2.2
section T1
variable (E : EV) (d : Nat) {B : Me}
/-- a squeeze of the row as it stands -/
def RwP (B N : Me) (o : Nat → Nat) : Prop := (∀ t, t < 8 → aS B t = true → N.1 24 0 t = nI (o t) ∧ 1 ≤ o t ∧ o t ≤ 10) ∧ ∀ t, aS B t = false → o t = oN B t
theorem c_movedAtLast {N : Me} (hC : CI B) (hF : FC B N) (o : Nat → Nat) (hr : RwP B N o) : Mt E (d + 1) m_Squeezer_movedAtLast [vP 23 0, vP 4 0] N (RP (vI (nI (allC (oN B) o (sN B)))) N) := by
  obtain ⟨hX, hB, -, -, hN, -⟩ := id hC
  have h8 := hX.1.2.1.2
  have hle := mvC_le (fun _ => true) (oN B) o
  have key : ∀ t, t ≤ 8 → ∀ x, x = mvC (fun _ => true) (oN B) o (min t (sN B)) → Wp E (d + 1) m_Squeezer_movedAtLast 4 [some (vP 23 0), some (vP 4 0), some (vI (nI x)), some (vI (nI t))] [] N (RP (vI (nI (allC (oN B) o (sN B)))) N) := by
    refine loopUp 8 ?_ ?_
    · rintro x rfl
      refine go ok_Squeezer_movedAtLast [] 60 ?_
      refine cLe (by omega) (by omega) (fun _ => ?_) (fun q => absurd q (by omega))
      refine And.intro ?_ rfl
      rw [Nat.min_eq_right h8]; rfl
    · rintro t ht ih x rfl
      refine go ok_Squeezer_movedAtLast [4] 60 ?_
      refine cLe (by omega) (by omega) (fun q => absurd q (by omega)) (fun _ => ?_)
      refine xq d ok_CS_has (c_has E d N _ t (by omega)) (by omega) ?_
      have ea : bt (N.1 4 0 3) t = aS B t := by rw [hF.1 4 0 3 rfl, hN.1]; rfl
      rw [ea]
      refine brF (fun q => ?_) (fun q => ?_)
      · refine nm_r (nI_add _ _) (ih _ ?_)
        rcases Nat.lt_or_ge t (sN B) with e | e
        · rw [Nat.min_eq_left (by omega), Nat.min_eq_left (by omega), mvC, hr.2 t q, decide_eq_true rfl]; rfl
        · rw [Nat.min_eq_right (by omega), Nat.min_eq_right (by omega)]
      · have e := air_lt hB q
        obtain ⟨o1, o2, o3⟩ := hX.1.2.2.2 t e
        obtain ⟨r1, r2, r3⟩ := hr.1 t ht q
        have hch : N.1 5 0 t = nI (oN B t) := by rw [hF.1 5 0 t rfl, (hN.2.2 t e).1]; exact o1
        refine ix t (show _ < 8 by omega) rfl ?_
        refine ix t (show _ < 8 by omega) rfl ?_
        have hm1 : min t (sN B) = t := by omega
        have hm2 : min (t + 1) (sN B) = t + 1 := by omega
        refine qEq r1 hch (by omega) (by omega) (fun w => ?_) (fun w => ?_)
        · refine nm_r (nI_add _ _) (ih _ ?_)
          rw [hm1, hm2, mvC, decide_eq_true w]; rfl
        · refine nm_r (nI_add _ _) (nm_r (nI_add _ _) (ih _ ?_))
          rw [hm1, hm2, mvC, decide_eq_false w]; rfl
  refine Mt.go ok_Squeezer_movedAtLast [4] 60 rfl ?_
  exact key 0 (by omega) 0 (by rw [Nat.zero_min]; rfl)
theorem c_goDown {N : Me} (n : Nat) (hC : CI B) (hF : FC B N) (hP : PU B N n) (m : Nat) (hm1 : 1 ≤ m) (hm : m ≤ cN B) (f : Int32) (hf : f = nI (cN B - 1)) : Mt E (d + 14) m_Squeezer_goDown [vP 23 0, vP 4 0, vI f, vI (nI m)] N (fun r M' => FC B M' ∧ PU B M' n ∧ ((r = some (vI (nI 0)) ∧ stF (aS B) (aLst B) (aDist B) (sN B) (cN B - m) (cN B - 1) (oN B) 0 0 = none) ∨ (r = some (vI (nI 1)) ∧ ∃ q, stF (aS B) (aLst B) (aDist B) (sN B) (cN B - m) (cN B - 1) (oN B) 0 0 = some q ∧ M'.1 23 0 6 = nI q.1 ∧ M'.1 23 0 7 = nI q.2.1 ∧ RwP B M' q.2.2))) := by
  obtain ⟨hX, hB, -, -, hN, -⟩ := id hC
  have h8 := hX.1.2.1.2
  have hc10 := hX.1.1.2
  subst hf
  generalize hG : stF (aS B) (aLst B) (aDist B) (sN B) (cN B - m) (cN B - 1) (oN B) 0 0 = G
  generalize hQ : (fun r M' => FC B M' ∧ PU B M' n ∧ ((r = some (vI (nI 0)) ∧ G = none) ∨ (r = some (vI (nI 1)) ∧ ∃ q, G = some q ∧ M'.1 23 0 6 = nI q.1 ∧ M'.1 23 0 7 = nI q.2.1 ∧ RwP B M' q.2.2)) : Option AV → Me → Prop) = Q
  have loop : ∀ j (k : Nat) (N' : Me) (o : Nat → Nat) (a t : Nat), k + 1 = m + j → k < 100 → a + 8 * j < 1000 → t ≤ 8 → FC B N' → PU B N' n → RwP B N' o → N'.1 23 0 6 = nI a → N'.1 23 0 7 = nI t → G = stF (aS B) (aLst B) (aDist B) (sN B) j k o a t → k ≤ 10 → ∀ j5, Wp E (d + 14) m_Squeezer_goDown 43 [some (vP 23 0), some (vP 4 0), some (vI (nI (cN B - 1))), some (vI (nI m)), some (vI (nI k)), j5] [] N' Q := by
    intro j
    induction j with
    | zero =>
      intro k N' o a t hk _ ha ht hF hP hR h6 h7 hg _ j5
      refine go ok_Squeezer_goDown [] 60 ?_
      refine cLt (by omega) (by omega) (fun _ => ?_) (fun q => absurd q (by omega))
      rw [← hQ]
      exact And.intro (Or.inr rfl) ⟨hF, hP, Or.inr ⟨rfl, (a, t, o), hg, h6, h7, hR⟩⟩
    | succ j ih =>
      intro k N' o a t hk hk100 ha ht hF hP hR h6 h7 hg hk10 j5
      rw [stF] at hg
      have hair : N'.1 4 0 3 = B.1 65 0 24 := by rw [hF.1 4 0 3 rfl, hN.1]
      refine go ok_Squeezer_goDown [43] 60 ?_
      refine cLt (by omega) (by omega) (fun q => absurd q (by omega)) (fun _ => ?_)
      have hx := c_findRow E d n hC hF hP 24 (Or.inr rfl) k hk10 o hR.1
      rw [← hair] at hx
      refine xc (d + 13) ok_Squeezer_findRow hx (by omega) ?_
      rintro r N2 ⟨f1, f2, f3, f4, f5, f6⟩
      rcases f6 with ⟨rfl, f6⟩ | ⟨rfl, ρ, g1, g2, g3, g4⟩
      · refine And.intro (fun e => absurd rfl e) (fun _ => ?_)
        rw [f6] at hg
        rw [← hQ]
        exact And.intro (Or.inl rfl) ⟨f1, f2, Or.inl ⟨rfl, hg⟩⟩
      · refine And.intro (fun _ => ?_) (fun e => absurd e (by decide))
        rw [g1] at hg
        have hg : G = stF (aS B) (aLst B) (aDist B) (sN B) j (k - 1) (bq (aS B) o ρ) (a + cq (aS B) o (sN B) ρ) (max t (cq (aS B) o (sN B) ρ)) := hg
        have hx := c_bitCountS E d N2 (mvb_sm hB h8 o ρ)
        rw [mvb_bits hB h8, ← g4] at hx
        refine xq d ok_Integer_bitCount hx (by omega) ?_
        have hcq : cq (aS B) o (sN B) ρ ≤ 8 := Nat.le_trans (mvC_le _ _ _ _) h8
        generalize cq (aS B) o (sN B) ρ = q at *
        have e6 : N2.1 23 0 6 + nI q = nI (a + q) := by rw [f4, h6, nI_s8]
        have e7 : (if N2.1 23 0 7 < nI q then nI q else N2.1 23 0 7) = nI (max t q) := by
          rw [f5, h7]
          by_cases c : t < q
          · rw [if_pos ((nI_ltI (by omega) (by omega)).mpr c), Nat.max_eq_right (by omega)]
          · rw [if_neg (fun z => c ((nI_ltI (by omega) (by omega)).mp z)), Nat.max_eq_left (by omega)]
        refine nm_r (nI_m1 (by omega)) ?_
        have hnx := ih (k - 1) (sI (sI N2 23 0 6 (N2.1 23 0 6 + nI q)) 23 0 7 (if N2.1 23 0 7 < nI q then nI q else N2.1 23 0 7)) (bq (aS B) o ρ) (a + q) (max t q) (by omega) (by omega) (by omega) (by omega) (FC_sI (FC_sI f1 rfl) rfl) (PU_o f2 (fun i i1 i2 => by funext r k; rw [sI_at, if_neg (by omega), sI_at, if_neg (by omega)])) ⟨fun u hu hS => by
            rw [sI_at, if_neg (by omega), sI_at, if_neg (by omega)]
            unfold bq
            rw [hS]
            exact g2 u hu hS, fun u hS => by unfold bq; rw [hS]; exact hR.2 u hS⟩ (by rw [sI_at, if_neg (by omega), sI_at, if_pos ⟨rfl, rfl, rfl⟩, e6]) (by rw [sI_at, if_pos ⟨rfl, rfl, rfl⟩, e7]) hg (by omega) (some (vI (nI q)))
        exact hnx
  have copy : ∀ t, t ≤ 8 → ∀ N', (∀ i r k, i ≠ 23 → i ≠ 24 → N'.1 i r k = N.1 i r k) → N'.2 = N.2 → N'.1 23 0 6 = nI 0 → N'.1 23 0 7 = nI 0 → (∀ u, u < t → N'.1 24 0 u = N.1 5 0 u) → ∀ j5, Wp E (d + 14) m_Squeezer_goDown 13 [some (vP 23 0), some (vP 4 0), some (vI (nI (cN B - 1))), some (vI (nI m)), some (vI (nI t)), j5] [] N' Q := by
    refine loopUp 8 ?_ ?_
    · intro N' h1 h2 h6 h7 h3 j5
      refine go ok_Squeezer_goDown [43] 60 ?_
      refine cLe (by omega) (by omega) (fun _ => ?_) (fun q => absurd q (by omega))
      refine loop (cN B - m) (cN B - 1) N' (oN B) 0 0 (by omega) (by omega) (by omega) (by omega) (hF.tr ⟨fun i r k e => h1 i r k (fun z => by rw [z] at e; cases e) (fun z => by rw [z] at e; cases e), h2⟩) (PU_o hP (fun i i1 i2 => by funext r k; exact h1 i r k (by omega) (by omega))) ⟨fun t ht hS => ?_, fun _ _ => rfl⟩ h6 h7 hG.symm (by omega) _
      have htn := air_lt hB hS
      rw [h3 t ht, hF.1 5 0 t rfl, (hN.2.2 t htn).1]
      exact hX.1.2.2.2 t htn
    · intro t ht ih N' h1 h2 h6 h7 h3 j5
      refine go ok_Squeezer_goDown [13] 60 ?_
      refine cLe (by omega) (by omega) (fun q => absurd q (by omega)) (fun _ => ?_)
      refine ix t (show _ < 8 by omega) rfl ?_
      refine ix t (show _ < 8 by omega) rfl ?_
      refine nm_r (nI_add _ _) (ih (sI N' 24 0 t (N'.1 5 0 t)) (fun i r k i1 i2 => by rw [sI_at, if_neg (fun z => i2 z.1)]; exact h1 i r k i1 i2) h2 (by rw [sI_at, if_neg (by omega)]; exact h6) (by rw [sI_at, if_neg (by omega)]; exact h7) (fun u hu => ?_) _)
      rw [sI_at]
      by_cases e : u = t
      · rw [if_pos ⟨rfl, rfl, e⟩, e]; exact h1 5 0 t (by omega) (by omega)
      · rw [if_neg (fun z => e z.2.2)]; exact h3 u (by omega)
  refine Mt.go ok_Squeezer_goDown [13] 60 rfl ?_
  exact copy 0 (by omega) (sI (sI N 23 0 6 (nI 0)) 23 0 7 (nI 0)) (fun i r k i1 _ => by rw [sI_at, if_neg (fun z => i1 z.1), sI_at, if_neg (fun z => i1 z.1)]) rfl (by rw [sI_at, if_neg (by omega), sI_at, if_pos ⟨rfl, rfl, rfl⟩]) (by rw [sI_at, if_pos ⟨rfl, rfl, rfl⟩]) (fun u hu => absurd hu (Nat.not_lt_zero _)) none
theorem c_steps (M : Me) (hC : CI M) (n : Nat) (hK : KNm M n) (hn : n + 1 < 2000) (x y : Int32) : Mt E (d + 15) m_CS_steps [vP 0 0, vI x, vI y] M (CQs M (qSteps M x y) n) := by
  obtain ⟨hX, hB, hx, hW, hN, hA⟩ := id hC
  have h8 := hX.1.2.1.2
  generalize hQ : CQs M (qSteps M x y) n = Q
  refine Mt.go ok_CS_steps [22] 60 rfl ?_
  have f22 : ∀ a, a = (hT M && in3 y 2) → Wp E (d + 15) m_CS_steps 22 [some (vP 0 0), some (vI x), some (vI y)] [vI (bI a), vP 0 0] M Q := by
    intro a ha
    refine go ok_CS_steps [] 60 ?_
    refine xq d ok_CS_isChannel (c_isChannel E d M hC x) (by omega) ?_
    refine xc d ok_CS_isRefused (c_isRefused E d M a (aCh M x)) (by omega) ?_
    rintro r M1 ⟨rfl, rfl⟩
    cases a with
    | false =>
      refine And.intro (fun e => absurd (show nI 1 = nI 0 from e) (by decide)) (fun _ => ?_)
      rw [← hQ]
      exact cqs_no hK hn (by unfold qSteps; rw [if_pos ha.symm]; rfl)
    | true =>
      have hq1 : ¬ (hT M && in3 y 2) = false := by rw [← ha]; decide
      cases q2 : aCh M x with
      | false =>
        refine And.intro (fun e => absurd (show nI 1 = nI 0 from e) (by decide)) (fun _ => ?_)
        rw [← hQ]
        exact cqs_no hK hn (by unfold qSteps; rw [if_neg hq1, if_pos q2]; rfl)
      | true =>
        refine And.intro (fun _ => ?_) (fun e => absurd (show nI 0 = nI 0 from rfl) e)
        have ha2 := ha.symm
        rw [Bool.and_eq_true] at ha2
        obtain ⟨k, hk, rfl⟩ := in3_at (b := 2) (by omega) ha2.2
        obtain ⟨c, hc1, hc2, rfl⟩ := aCh_at hX.1 q2
        have hc10 := hX.1.1.2
        have hq2 : ¬ aCh M (nI c) = false := by rw [q2]; decide
        have hq : qSteps M (nI c) (nI k) = stV (oN M) (sN M) (nI k) (stF (aS M) (aLst M) (aDist M) (sN M) (cN M - c) (cN M - 1) (oN M) 0 0) := by
          unfold qSteps; rw [if_neg hq1, if_neg hq2, tN_nI (by omega)]
        have hC1 : CI (sI M 0 0 11 (nI 0)) := hC
        have hK1 : KNm (sI M 0 0 11 (nI 0)) n := hK
        refine xc (d + 2) ok_Packer_learn (c_learn E d _ n hC1 (sN_hT hC ha2.1) hK1 hn) (by omega) ?_
        rintro r M2 ⟨rfl, hF2, h02, hP2⟩
        have hFM2 : FC M M2 := (FC_sI (FC.rf M) rfl).tr hF2
        have hch : M2.1 30 (M2.2.2 0 0 9) 10 - nI 1 = nI (cN M - 1) := by
          rw [hFM2.2, hFM2.1 30 _ 10 rfl, hW.1.1, hX.1.1.1, nI_m1 (by omega)]
        refine xc (d + 14) ok_Squeezer_goDown (c_goDown E d (B := sI M 0 0 11 (nI 0)) (n + 1) hC1 hF2 hP2 c hc1 hc2 _ hch) (by omega) ?_
        rintro r M3 ⟨hF3, hP3, h3⟩
        have hFM : FC M M3 := (FC_sI (FC.rf M) rfl).tr hF3
        rcases h3 with ⟨rfl, h3⟩ | ⟨rfl, q, g1, g2, g3, g4⟩
        · refine And.intro (fun e => absurd rfl e) (fun _ => ?_)
          have h3 : stF (aS M) (aLst M) (aDist M) (sN M) (cN M - c) (cN M - 1) (oN M) 0 0 = none := h3
          rw [h3] at hq
          refine x_cans E _ _ (by omega) ?_
          rw [← hQ]
          exact cqs_ye hFM hP3.2.2.1 hq
        · refine And.intro (fun _ => ?_) (fun e => absurd e (by decide))
          have g1 : stF (aS M) (aLst M) (aDist M) (sN M) (cN M - c) (cN M - 1) (oN M) 0 0 = some q := g1
          rw [g1] at hq
          have hq : qSteps M (nI c) (nI k) = if nI k = nI 0 then ye (nI q.1) else if nI k = nI 1 then ye (nI q.2.1) else ye (nI (allC (oN M) q.2.2 (sN M))) := hq
          refine And.intro (fun e => ?_) (fun e => And.intro (fun e1 => ?_) (fun e1 => ?_))
          · refine x_cans E _ _ (by omega) ?_
            rw [← hQ]
            refine cqs_ye hFM hP3.2.2.1 ?_
            rw [hq, if_pos (show nI k = nI 0 from e)]; exact congrArg ye g2.symm
          · refine x_cans E _ _ (by omega) ?_
            rw [← hQ]
            refine cqs_ye hFM hP3.2.2.1 ?_
            rw [hq, if_neg (show ¬ nI k = nI 0 from e), if_pos (show nI k = nI 1 from e1)]; exact congrArg ye g3.symm
          · refine xq (d + 1) ok_Squeezer_movedAtLast (c_movedAtLast E d (B := sI M 0 0 11 (nI 0)) hC1 hF3 q.2.2 g4) (by omega) ?_
            refine x_cans E _ _ (by omega) ?_
            rw [← hQ]
            refine cqs_ye hFM hP3.2.2.1 ?_
            rw [hq, if_neg (show ¬ nI k = nI 0 from e), if_neg (show ¬ nI k = nI 1 from e1)]; rfl
  refine xq d ok_CS_hasText (c_hasText E d M hC) (by omega) ?_
  refine brF (fun q => ?_) (fun q => ?_)
  · exact f22 false (by rw [q]; rfl)
  · refine And.intro (fun w => ?_) (fun w => ?_)
    · exact f22 false (by rw [in3_no w, Bool.and_false])
    · obtain ⟨k, hk, rfl⟩ := nneg (Int32.not_lt.mp w)
      refine cLt (by omega) hk (fun u => ?_) (fun u => ?_)
      · exact f22 false (by rw [in3_no2 hk (by omega) u, Bool.and_false])
      · exact f22 true (by rw [q, in3_ye hk (by omega) u]; rfl)
end T1
