/-! the class: lay, clear -/
def paZ (a : Int32) (z : C4) : Prop := ∀ i, i < 32 → bt a i = (bt z.1 i || (bt z.2.1 i || bt z.2.2.1 i)) ∧ (bt z.2.1 i = true → bt z.1 i = false ∧ bt z.2.2.1 i = false)
theorem paZ_step {fit : Int32 → Bool} {w : Nat → Int32} {p : Int32} {t : Nat} (ht : t < 32) {a : Int32} {z : C4} (h : paZ a z) (h2 : ∀ i, i < 32 → bt z.2.2.1 i = true → bt z.1 i = false) : paZ a (rStep fit w p t z) := by
  intro i hi
  obtain ⟨p1, p2⟩ := h i hi
  unfold rStep
  cases hb : bt z.1 t with
  | false => exact ⟨p1, p2⟩
  | true =>
    have e : bt (z.1 &&& (b1 t ^^^ -(nI 1))) i = (bt z.1 i && !decide (i = t)) := by rw [b_and, b_not hi, b1_at ht hi]
    have hst : bt z.2.1 t = false := by
      cases hc : bt z.2.1 t with
      | false => rfl
      | true => rw [((h t ht).2 hc).1] at hb; cases hb
    have hft : bt z.2.2.1 t = false := by
      cases hc : bt z.2.2.1 t with
      | false => rfl
      | true => rw [h2 t ht hc] at hb; cases hb
    cases fit (z.2.1 ||| b1 t) with
    | false =>
      simp only [Bool.not_true, cond_false, Bool.not_false, cond_true]
      rw [e, b_or, b1_at ht hi]
      by_cases c : i = t
      · subst c
        rw [p1, hb, hst, hft, decide_eq_true rfl]
        exact ⟨rfl, fun q => by cases q⟩
      · rw [decide_eq_false c]
        simp only [Bool.not_false, Bool.and_true, Bool.or_false]
        exact ⟨p1, p2⟩
    | true =>
      cases decide (p < w t) with
      | false => exact ⟨p1, p2⟩
      | true =>
        simp only [Bool.not_true, cond_false, cond_true]
        rw [e, b_or, b1_at ht hi]
        by_cases c : i = t
        · subst c
          rw [p1, hb, hst, hft, decide_eq_true rfl]
          exact ⟨rfl, fun _ => ⟨rfl, rfl⟩⟩
        · rw [decide_eq_false c]
          simp only [Bool.not_false, Bool.and_true, Bool.or_false]
          exact ⟨p1, p2⟩
theorem paZ_rnd {fit : Int32 → Bool} {w : Nat → Int32} {p : Int32} {n : Nat} (hn : n ≤ 32) {a : Int32} {z : C4} (hz : okZ n z) (h : paZ a z) : ∀ t, t ≤ n → paZ a (rRnd fit w p t z)
  | 0, _ => h
  | t + 1, ht => by
    rw [rRnd]
    refine paZ_step (by omega) (paZ_rnd hn hz h t (by omega)) (fun i hi hb => ?_)
    exact ((okZ_rnd (fit := fit) (w := w) (p := p) hn hz t (by omega)).2.2.1 i hi hb).2
theorem paZ_go {fit : Int32 → Bool} {w : Nat → Int32} {n st : Nat} (hn : n ≤ 32) {a : Int32} : ∀ (k p : Nat) (z : C4) (r : Nat), okZ n z → paZ a z → paZ a (rRun fit w n st k p z r).2
  | 0, _, _, _, _, h => h
  | k + 1, p, z, r, hz, h => by
    rw [rRun]
    have h1 := okZ_rnd (fit := fit) (w := w) (p := nI p) hn hz n (Nat.le_refl _)
    have h2 := paZ_rnd (fit := fit) (w := w) (p := nI p) hn hz h n (Nat.le_refl _)
    cases (decide ((rRnd fit w (nI p) n z).1 = nI 0) || decide (p = 0)) with
    | true => exact h2
    | false => exact paZ_go hn k _ _ _ h1 h2
theorem clk_ok {M : Me} (hB : RB M) (h8 : sN M ≤ 8) (c P st : Nat) : okZ (sN M) (aClk M c P st).2 ∧ paZ (M.1 65 0 24) (aClk M c P st).2 := by
  have hz0 : okZ (sN M) (z0 (M.1 65 0 24)) := by
    refine ⟨fun i hi hb => air_lt hB hb, fun i hi hb => ?_, fun i hi hb => ?_, fun t _ => rfl⟩
    · rw [show (z0 (M.1 65 0 24)).2.1 = nI 0 from rfl, b_0] at hb; cases hb
    · rw [show (z0 (M.1 65 0 24)).2.2.1 = nI 0 from rfl, b_0] at hb; cases hb
  refine ⟨okZ_go (fit := fun x => aFit M x c) (w := fun t => M.1 65 0 (8 + t)) (st := st) (by omega) (P + 1) P _ 0 hz0, paZ_go (fit := fun x => aFit M x c) (w := fun t => M.1 65 0 (8 + t)) (st := st) (by omega) (P + 1) P _ 0 hz0 (fun i hi => ?_)⟩
  rw [show (z0 (M.1 65 0 24)).2.1 = nI 0 from rfl, show (z0 (M.1 65 0 24)).2.2.1 = nI 0 from rfl, show (z0 (M.1 65 0 24)).1 = M.1 65 0 24 from rfl, b_0]
  exact ⟨by simp, fun q => by cases q⟩
theorem clk_stay {a : Int32} {z : C4} (h : paZ a z) : a &&& ((z.2.2.1 ||| z.1) ^^^ -(nI 1)) = z.2.1 := by
  apply b_ext
  intro i hi
  obtain ⟨p1, p2⟩ := h i hi
  rw [b_and, b_not hi, b_or, p1]
  cases hs : bt z.2.1 i with
  | true => obtain ⟨q1, q2⟩ := p2 hs; rw [q1, q2]; rfl
  | false => cases bt z.1 i <;> cases bt z.2.2.1 i <;> rfl
theorem RH_fc {M N : Me} (h : FC M N) (hH : RH M) : RH N ∧ hx N = hx M ∧ hz N = hz M := by
  have e1 : N.1 8 0 1 = M.1 8 0 1 := h.1 8 0 1 rfl
  have e2 : N.1 8 0 2 = M.1 8 0 2 := h.1 8 0 2 rfl
  have e3 : hx N = hx M := by unfold hx; rw [e1]
  have e4 : hz N = hz M := by unfold hz; rw [e2]
  refine ⟨?_, e3, e4⟩
  unfold RH
  rw [e1, e2, e3, e4]; exact hH
/-- an act that searches first -/
abbrev AS (M : Me) (n t : Nat) (v : Int32) (R : Me → Me) : Option AV → Me → Prop := fun r M' => (t ≠ 0 ∧ CQs M (no t) n r M') ∨ (t = 0 ∧ r = some (vI v) ∧ ∃ M3, FC M M3 ∧ KNm M3 (n + 1) ∧ M' = sI (R M3) 0 0 11 (nI 0))
section A3
variable (E : EV) (d : Nat) (M : Me)
theorem c_clear (hC : CI M) (hV : RVl M) (hH : RH M) (n : Nat) (hK : KNm M n) (hn : n + 1 < 2000) (x y z : Int32) : Mt E (d + 14) m_CS_clear [vP 0 0, vI x, vI y, vI z] M (AS M n (tClear M x y z) (vClear M x y z) (fun M3 => sI (sI (clR M3) 4 0 3 (aClk M (tN x) (tN y) (tN z)).2.2.1) 4 0 4 (vClear M x y z))) := by
  obtain ⟨hX, hB, hx, hW, hN, hA⟩ := id hC
  have h8 := hX.1.2.1.2
  generalize hQ : AS M n (tClear M x y z) (vClear M x y z) (fun M3 => sI (sI (clR M3) 4 0 3 (aClk M (tN x) (tN y) (tN z)).2.2.1) 4 0 4 (vClear M x y z)) = Q
  refine Mt.go ok_CS_clear [] 60 rfl ?_
  refine xq d ok_CS_hasText (c_hasText E d M hC) (by omega) ?_
  refine xq (d + 1) ok_CS_isClock (c_isClock E d M hC x y z) (by omega) ?_
  refine xc d ok_CS_isRefused (c_isRefused E d M (hT M) (aCk M x y z)) (by omega) ?_
  rintro r M1 ⟨rfl, rfl⟩
  cases q1 : hT M with
  | false =>
    refine And.intro (fun e => absurd (show nI 1 = nI 0 from e) (by decide)) (fun _ => ?_)
    have ht : tClear M x y z = 1 := by unfold tClear; rw [q1]; rfl
    rw [← hQ, ht]
    exact Or.inl ⟨by omega, cqs_no hK hn rfl⟩
  | true =>
    cases q2 : aCk M x y z with
    | false =>
      refine And.intro (fun e => absurd (show nI 1 = nI 0 from e) (by decide)) (fun _ => ?_)
      have ht : tClear M x y z = 2 := by unfold tClear; rw [q1, q2]; rfl
      rw [← hQ, ht]
      exact Or.inl ⟨by omega, cqs_no hK hn rfl⟩
    | true =>
      refine And.intro (fun _ => ?_) (fun e => absurd (show nI 0 = nI 0 from rfl) e)
      have ht : tClear M x y z = 0 := by unfold tClear; rw [q1, q2]; rfl
      obtain ⟨c, P, st, ⟨hc1, hc2⟩, hP9, ⟨hs1, hs9⟩, rfl, rfl, rfl⟩ := aCk_at hX.1 q2
      have hc10 := hX.1.1.2
      have ec : tN (nI c) = c := tN_nI (by omega)
      have eP : tN (nI P) = P := tN_nI (by omega)
      have est : tN (nI st) = st := tN_nI (by omega)
      have hC1 : CI (sI M 0 0 11 (nI 0)) := hC
      have hK1 : KNm (sI M 0 0 11 (nI 0)) n := hK
      have hV1 : RVl (sI M 0 0 11 (nI 0)) := hV
      refine xc (d + 2) ok_Packer_learn (c_learn E d _ n hC1 (sN_hT hC q1) hK1 hn) (by omega) ?_
      rintro r M2 ⟨rfl, hF2, h02, hP2⟩
      refine xc (d + 13) ok_Market_runClock (c_runClock E d (B := sI M 0 0 11 (nI 0)) (n + 1) hC1 hV1 hF2 hP2 c (by omega) P st hP9 hs1 hs9) (by omega) ?_
      rintro r M3 ⟨rfl, hF3, hP3, h03, m2, m5, mk⟩
      have hFM : FC M M3 := (FC_sI (FC.rf M) rfl).tr hF3
      have ecl : aClk (sI M 0 0 11 (nI 0)) c P st = aClk M c P st := rfl
      rw [ecl] at m2 m5 mk
      obtain ⟨hz, hpa⟩ := clk_ok hB h8 c P st
      obtain ⟨hH3, -, -⟩ := RH_fc hFM hH
      refine xc (d + 1) ok_History_remember (c_remember E d M3 hH3) (by omega) ?_
      rintro r M4 ⟨rfl, hM4⟩
      have c4 : ∀ i r k, i ≠ 8 → i ≠ 10 → M4.1 i r k = M3.1 i r k := fun i r k a b => by rw [hM4]; exact clR_at a b
      have eair : M4.1 4 0 3 &&& ((M4.1 21 0 4 ||| M4.1 21 0 5) ^^^ -(nI 1)) = (aClk M c P st).2.2.1 := by
        rw [c4 4 0 3 (by omega) (by omega), c4 21 0 4 (by omega) (by omega), c4 21 0 5 (by omega) (by omega), mk.2.1, m5, hFM.1 4 0 3 rfl, hN.1]
        exact clk_stay hpa
      have hx := c_frozenPrices E d (N := sI M4 4 0 3 (M4.1 4 0 3 &&& ((M4.1 21 0 4 ||| M4.1 21 0 5) ^^^ -(nI 1)))) (aClk M c P st).2.2.2.1 (clP (aClk M c P st)) (by rw [sI_at, if_neg (by omega), c4 21 0 4 (by omega) (by omega)]; exact mk.2.1) (fun t ht hb => by
        rw [sI_at, if_neg (by omega), c4 22 0 t (by omega) (by omega), mk.2.2 t ht, hb]
        unfold clP
        rw [(hz.2.2.1 t (by omega) hb).2]; rfl) (sN M) h8 (fun t t1 t2 => by
        cases hb : bt (aClk M c P st).2.2.2.1 t with
        | false => rfl
        | true => have := (hz.2.2.1 t (by omega) hb).1; omega)
      refine xq (d + 1) ok_Market_frozenPrices hx (by omega) ?_
      refine x_cans E _ _ (by omega) ?_
      have epd : (sI M4 4 0 3 (M4.1 4 0 3 &&& ((M4.1 21 0 4 ||| M4.1 21 0 5) ^^^ -(nI 1)))).1 4 0 4 + aPr (aClk M c P st).2.2.2.1 (clP (aClk M c P st)) (sN M) = vClear M (nI c) (nI P) (nI st) := by
        unfold vClear
        rw [ec, eP, est, sI_at, if_neg (by omega), c4 4 0 4 (by omega) (by omega), hFM.1 4 0 4 rfl, hN.2.1]; rfl
      rw [← hQ]
      refine Or.inr ⟨ht, ?_, M3, hFM, hP3.2.2.1, ?_⟩
      · rw [← epd]; rfl
      · dsimp only
        rw [ec, eP, est, ← hM4, ← eair, ← epd]
theorem c_lay (hC : CI M) (hH : RH M) (n : Nat) (hK : KNm M n) (hn : n + 1 < 2000) (x : Int32) : Mt E (d + 15) m_CS_lay [vP 0 0, vI x] M (AS M n (tLay M x) (nI (sqL M (tN x))) (fun M3 => setR (clR M3) 5 0 0 (sN M) (fun t => nI (sqB M (tN x) t)))) := by
  obtain ⟨hX, hB, hx, hW, hN, hA⟩ := id hC
  have h8 := hX.1.2.1.2
  generalize hQ : AS M n (tLay M x) (nI (sqL M (tN x))) (fun M3 => setR (clR M3) 5 0 0 (sN M) (fun t => nI (sqB M (tN x) t))) = Q
  refine Mt.go ok_CS_lay [46] 60 rfl ?_
  refine xq d ok_CS_hasText (c_hasText E d M hC) (by omega) ?_
  refine xq d ok_CS_isChannel (c_isChannel E d M hC x) (by omega) ?_
  refine xc d ok_CS_isRefused (c_isRefused E d M (hT M) (aCh M x)) (by omega) ?_
  rintro r M1 ⟨rfl, rfl⟩
  cases q1 : hT M with
  | false =>
    refine And.intro (fun e => absurd (show nI 1 = nI 0 from e) (by decide)) (fun _ => ?_)
    have ht : tLay M x = 1 := by unfold tLay; rw [q1]; rfl
    rw [← hQ, ht]
    exact Or.inl ⟨by omega, cqs_no hK hn rfl⟩
  | true =>
    cases q2 : aCh M x with
    | false =>
      refine And.intro (fun e => absurd (show nI 1 = nI 0 from e) (by decide)) (fun _ => ?_)
      have ht : tLay M x = 2 := by unfold tLay; rw [q1, q2]; rfl
      rw [← hQ, ht]
      exact Or.inl ⟨by omega, cqs_no hK hn rfl⟩
    | true =>
      refine And.intro (fun _ => ?_) (fun e => absurd (show nI 0 = nI 0 from rfl) e)
      obtain ⟨c, hc1, hc2, rfl⟩ := aCh_at hX.1 q2
      have hc10 := hX.1.1.2
      have ec : tN (nI c) = c := tN_nI (by omega)
      have hC1 : CI (sI M 0 0 11 (nI 0)) := hC
      have hK1 : KNm (sI M 0 0 11 (nI 0)) n := hK
      refine xc (d + 14) ok_CS_squeezeNow (c_squeezeNow E d (sI M 0 0 11 (nI 0)) n hC1 (sN_hT hC q1) hK1 hn c (by omega)) (by omega) ?_
      rintro r M3 ⟨f1, f2, f3, f4⟩
      have hFM : FC M M3 := (FC_sI (FC.rf M) rfl).tr f1
      rcases f4 with ⟨rfl, f4⟩ | ⟨rfl, ρ, g1, g2, g3, g4⟩
      · refine And.intro (fun e => absurd rfl e) (fun _ => ?_)
        have f4 : aSq M c = none := f4
        have ht : tLay M (nI c) = 6 := by unfold tLay; rw [q1, q2, ec, f4]; rfl
        refine x_cref E _ (nI 6) (by omega) ?_
        rw [← hQ, ht]
        exact Or.inl ⟨by omega, cqs_no2 hFM f2.2.2.1 rfl⟩
      · refine And.intro (fun _ => ?_) (fun e => absurd e (by decide))
        have g1 : aSq M c = some ρ := g1
        have g4 : M3.1 23 0 4 = S32 (mvb (aS M) (oN M) ρ) := g4
        have ht : tLay M (nI c) = 0 := by unfold tLay; rw [q1, q2, ec, g1]; rfl
        have eL : sqL M c = cq (aS M) (oN M) (sN M) ρ := by unfold sqL; rw [g1]
        have eB : sqB M c = bq (aS M) (oN M) ρ := by unfold sqB; rw [g1]
        obtain ⟨hH3, -, -⟩ := RH_fc hFM hH
        refine xc (d + 1) ok_History_remember (c_remember E d M3 hH3) (by omega) ?_
        rintro r M4 ⟨rfl, hM4⟩
        have c4 : ∀ i r k, i ≠ 8 → i ≠ 10 → M4.1 i r k = M3.1 i r k := fun i r k a b => by rw [hM4]; exact clR_at a b
        have hrow : ∀ t, t < sN M → M3.1 24 0 t = nI (sqB M c t) := by
          intro t htn
          rw [eB]
          unfold bq
          cases hS : aS M t with
          | true => exact (g2 t (by omega) hS).1
          | false =>
            rw [g3 t (by omega) hS]
            show M.1 5 0 t = nI (oN M t)
            rw [(hN.2.2 t htn).1, (hX.1.2.2.2 t htn).1]
        have hpl4 : M4.2 = M.2 := by rw [hM4]; exact hFM.2
        have key : ∀ t, t ≤ sN M → ∀ N, N = setR M4 5 0 0 t (fun t => nI (sqB M c t)) → Wp E (d + 15) m_CS_lay 46 [some (vP 0 0), some (vI (nI c)), some (vI (nI t))] [] N Q := by
          refine loopUp (sN M) ?_ ?_
          · rintro N hN'
            have hcnt : N.1 31 (N.2.2 0 0 9) 5 = nI (sN M) := by
              have : N.2 = M.2 := by rw [hN']; exact hpl4
              rw [this, hN', setR_out (by omega), c4 31 _ 5 (by omega) (by omega), hFM.1 31 _ 5 rfl, hW.1.2.1, hX.1.2.1.1]
            refine go ok_CS_lay [] 60 ?_
            refine qLe hcnt rfl (by omega) (by omega) (fun _ => ?_) (fun q => absurd q (by omega))
            have hm : N.1 23 0 4 = S32 (mvb (aS M) (oN M) ρ) := by rw [hN', setR_out (by omega), c4 23 0 4 (by omega) (by omega)]; exact g4
            have hx := c_bitCountS E d N (mvb_sm hB h8 (oN M) ρ)
            rw [mvb_bits hB h8, ← hm] at hx
            refine xq d ok_Integer_bitCount hx (by omega) ?_
            refine x_cans E _ _ (by omega) ?_
            rw [← hQ]
            refine Or.inr ⟨ht, by rw [ec, eL], M3, hFM, f2.2.2.1, ?_⟩
            dsimp only
            rw [ec, hN', hM4]
          · rintro t htn ih N hN'
            have hcnt : N.1 31 (N.2.2 0 0 9) 5 = nI (sN M) := by
              have : N.2 = M.2 := by rw [hN']; exact hpl4
              rw [this, hN', setR_out (by omega), c4 31 _ 5 (by omega) (by omega), hFM.1 31 _ 5 rfl, hW.1.2.1, hX.1.2.1.1]
            refine go ok_CS_lay [46] 60 ?_
            refine qLe hcnt rfl (by omega) (by omega) (fun q => absurd q (by omega)) (fun _ => ?_)
            refine ix t (show _ < 8 by omega) rfl ?_
            refine ix t (show _ < 8 by omega) rfl ?_
            refine nm_r (nI_add _ _) (ih _ ?_)
            have hv : N.1 24 0 t = nI (sqB M c t) := by rw [hN', setR_out (by omega), c4 24 0 t (by omega) (by omega)]; exact hrow t htn
            have hst := setR_step M4 5 0 0 t (fun t => nI (sqB M c t))
            rw [Nat.zero_add] at hst
            rw [← hst, ← hN', ← hv]
        exact key 0 (Nat.zero_le _) M4 (setR_0 _ _ _ _ _).symm
end A3
