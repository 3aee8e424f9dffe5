/-! the class: order, steps -/
theorem mvb_bq {B : Me} (o ρ : Nat → Nat) : S32 (mvb (aS B) o (bq (aS B) o ρ)) = S32 (mvb (aS B) o ρ) := S32_cg fun i _ => by
  unfold mvb bq
  cases aS B i <;> rfl
theorem uns_bq {B : Me} (o ρ : Nat → Nat) : ∀ n, uns (bq (aS B) o ρ) o n = mvC (aS B) o ρ n
  | 0 => rfl
  | n + 1 => by
    have := uns_bq (B := B) o ρ n
    unfold uns at this ⊢
    rw [sumN, this, mvC]
    congr 1
    unfold bq
    cases aS B n with
    | false => simp
    | true => rw [cond_true, Bool.true_and, show decide (o n = ρ n) = decide (ρ n = o n) from decide_eq_decide.mpr ⟨Eq.symm, Eq.symm⟩]
theorem aSq_val {B : Me} {m : Nat} {ρ : Nat → Nat} (h : aSq B m = some ρ) : ∀ t u, t < sN B → u < sN B → t ≠ u → aS B u = true → aS B t = true → aDist B t (ρ t) u (ρ u) = false := by
  rcases sqF_memb _ _ h with q | q
  · rw [aX_eq] at q
    have hv := (exX_mem.mp q).1
    intro t u ht hu hne hSu hSt
    rcases Nat.lt_or_ge u t with e | e
    · exact (hv t ht hSt).2 u e hSu
    · rw [aDist_sy]; exact (hv u hu hSu).2 t (by omega) hSt
  · cases q
section O2
variable (E : EV) (d : Nat) (M : Me)
theorem c_order (hC : CI M) (n : Nat) (hK : KNm M n) (hn : n + 1 < 2000) (x y : Int32) : Mt E (d + 15) m_CS_order [vP 0 0, vI x, vI y] M (CQs M (qOrder M x y) n) := by
  obtain ⟨hX, hB, hx, hW, hN, hA⟩ := id hC
  have h8 := hX.1.2.1.2
  generalize hQ : CQs M (qOrder M x y) n = Q
  refine Mt.go ok_CS_order [17] 60 rfl ?_
  have f17 : ∀ a, a = (hT M && decide (nI 0 ≤ y)) → Wp E (d + 15) m_CS_order 17 [some (vP 0 0), some (vI x), some (vI y)] [vI (bI a), vP 0 0] M Q := by
    intro a ha
    refine go ok_CS_order [86] 60 ?_
    refine xq d ok_CS_isChannel (c_isChannel E d M hC x) (by omega) ?_
    refine xc d ok_CS_isRefused (c_isRefused E d M a (aCh M x)) (by omega) ?_
    rintro r M1 ⟨rfl, rfl⟩
    cases a with
    | false =>
      refine And.intro (fun e => absurd (show nI 1 = nI 0 from e) (by decide)) (fun _ => ?_)
      rw [← hQ]
      exact cqs_no hK hn (by unfold qOrder; rw [if_pos ha.symm]; rfl)
    | true =>
      have hq1 : ¬ (hT M && decide (nI 0 ≤ y)) = false := by rw [← ha]; decide
      cases q2 : aCh M x with
      | false =>
        refine And.intro (fun e => absurd (show nI 1 = nI 0 from e) (by decide)) (fun _ => ?_)
        rw [← hQ]
        exact cqs_no hK hn (by unfold qOrder; rw [if_neg hq1, if_pos q2]; rfl)
      | true =>
        refine And.intro (fun _ => ?_) (fun e => absurd (show nI 0 = nI 0 from rfl) e)
        have ha2 := ha.symm
        rw [Bool.and_eq_true, decide_eq_true_eq] at ha2
        obtain ⟨k, hk, rfl⟩ := nneg ha2.2
        obtain ⟨c, hc1, hc2, rfl⟩ := aCh_at hX.1 q2
        have hc10 := hX.1.1.2
        have hq2 : ¬ aCh M (nI c) = false := by rw [q2]; decide
        have hq : qOrder M (nI c) (nI k) = qOrder M (nI c) (nI k) := rfl
        conv at hq => rhs; unfold qOrder; rw [if_neg hq1, if_neg hq2, tN_nI (show c < 2 ^ 31 by omega), tN_nI hk]
        have hC1 : CI (sI M 0 0 11 (nI 0)) := hC
        have hK1 : KNm (sI M 0 0 11 (nI 0)) n := hK
        refine xc (d + 14) ok_CS_squeezeNow (c_squeezeNow E d (sI M 0 0 11 (nI 0)) n hC1 (sN_hT hC ha2.1) hK1 hn c (by omega)) (by omega) ?_
        rintro r M3 ⟨f1, f2, f3, f4⟩
        have hFM : FC M M3 := (FC_sI (FC.rf M) rfl).tr f1
        rcases f4 with ⟨rfl, f4⟩ | ⟨rfl, ρ, g1, g2, g3, g4⟩
        · refine And.intro (fun e => absurd rfl e) (fun _ => ?_)
          have f4 : aSq M c = none := f4
          rw [f4] at hq
          refine x_cref E _ (nI 6) (by omega) ?_
          rw [← hQ]
          exact cqs_no2 hFM f2.2.2.1 hq
        · refine And.intro (fun _ => ?_) (fun e => absurd e (by decide))
          have g1 : aSq M c = some ρ := g1
          have hpl : M3.2.2 0 0 9 = pl (sI M 0 0 11 (nI 0)) := by rw [hFM.2]; rfl
          have hx := c_findSequence E d (B := sI M 0 0 11 (nI 0)) (N := M3) (n + 1) hC1 f1 f2 (bq (aS M) (oN M) ρ) (fun t ht hS => by
            have hS' : aS M t = true := hS
            unfold bq
            rw [hS', cond_true]
            exact ⟨(g2 t ht hS).1, (g2 t ht hS).2.2⟩) (fun t hS => by
            have hS' : aS M t = false := hS
            unfold bq
            rw [hS']; rfl) (by
            rw [g4]
            exact (mvb_bq (B := sI M 0 0 11 (nI 0)) (oN M) ρ).symm)
          rw [← hpl] at hx
          refine xc (d + 4) ok_Squeezer_findSequence hx (by omega) ?_
          rintro r M4 ⟨rfl, hF4, hP4, hS4⟩
          have hFM4 : FC M M4 := (FC_sI (FC.rf M) rfl).tr hF4
          have eB : sqB M c = bq (aS M) (oN M) ρ := by unfold sqB; rw [g1]
          have eL : sqL M c = uns (bq (aS M) (oN M) ρ) (oN M) (sN M) := by
            unfold sqL; rw [g1]; exact (uns_bq (B := M) (oN M) ρ (sN M)).symm
          have eO : ordF (aS M) (aDist M) (sqB M c) (sN M) (sqL M c) (oN M) = gdy (aS M) (aDist M) (bq (aS M) (oN M) ρ) (sN M) (uns (bq (aS M) (oN M) ρ) (oN M) (sN M)) (oN M) := by
            rw [eB, eL]
            refine ord_gdy (fun t u ht hu hne hSu hSt => ?_) _ _ (fun t ht hne => ?_) rfl
            · unfold bq
              rw [hSu, hSt]
              exact aSq_val g1 t u ht hu hne hSu hSt
            · cases hS : aS M t with
              | true => rfl
              | false => unfold bq at hne; rw [hS] at hne; exact absurd rfl hne
          rw [g1, eO] at hq
          have hS4 : SeqP M4 (gdy (aS M) (aDist M) (bq (aS M) (oN M) ρ) (sN M) (uns (bq (aS M) (oN M) ρ) (oN M) (sN M)) (oN M)) := hS4
          have fin : ∀ v, qOrder M (nI c) (nI k) = ye v → Wp E (d + 15) m_CS_order 86 [some (vP 0 0), some (vI (nI c)), some (vI (nI k))] [vI v, vP 0 0] M4 Q := by
            intro v e
            refine go ok_CS_order [] 60 ?_
            refine x_cans E _ _ (by omega) ?_
            rw [← hQ]
            exact cqs_ye hFM4 hP4.2.2.1 e
          cases hG : gdy (aS M) (aDist M) (bq (aS M) (oN M) ρ) (sN M) (uns (bq (aS M) (oN M) ρ) (oN M) (sN M)) (oN M) with
          | none =>
            rw [hG] at hq hS4
            have hS4 : M4.1 23 0 5 = nI 0 := hS4
            refine qLe hS4 rfl (by omega) hk (fun _ => ?_) (fun w => absurd w (by omega))
            exact fin _ hq
          | some l =>
            rw [hG] at hq hS4
            obtain ⟨l1, l2, l3⟩ := hS4
            have hq : qOrder M (nI c) (nI k) = match l[k]? with
              | none => ye (-(nI 2))
              | some s => ye (nI s) := hq
            refine qLe l1 rfl (by omega) hk (fun w => ?_) (fun w => ?_)
            · refine fin _ ?_
              rw [hq, List.getElem?_eq_none w]
            · refine ix k (show _ < 8 by omega) rfl ?_
              refine fin _ ?_
              have := l3 k w
              rw [List.getD_eq_getElem?_getD, List.getElem?_eq_getElem w] at this
              rw [hq, List.getElem?_eq_getElem w]
              exact congrArg ye this.symm
  refine xq d ok_CS_hasText (c_hasText E d M hC) (by omega) ?_
  refine brF (fun q => ?_) (fun q => ?_)
  · exact f17 false (by rw [q]; rfl)
  · refine And.intro (fun w => ?_) (fun w => ?_)
    · exact f17 false (by rw [decide_eq_false (Int32.not_le.mpr w), Bool.and_false])
    · exact f17 true (by rw [q, decide_eq_true (Int32.not_lt.mp w)]; rfl)
end O2
