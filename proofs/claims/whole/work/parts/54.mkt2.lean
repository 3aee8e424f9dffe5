/-! the class: the clock -/
section M2
variable (E : EV) (d : Nat) {B : Me}
theorem c_runRound {N : Me} (n : Nat) (hC : CI B) (hF : FC B N) (hP : PU B N n) (m : Nat) (hm : m ≤ 10) (p : Int32) (z : C4) (hz : okZ (sN B) z) (hM : MK N z) : Mt E (d + 12) m_Market_runRound [vP 21 0, vP 4 0, vI (nI m), vI p, vI z.1] N (fun r M' => r = some (vI (rRnd (fun x => aFit B x m) (fun t => B.1 65 0 (8 + t)) p (sN B) z).1) ∧ FC B M' ∧ PU B M' n ∧ MK M' (rRnd (fun x => aFit B x m) (fun t => B.1 65 0 (8 + t)) p (sN B) z) ∧ M'.1 21 0 2 = N.1 21 0 2 ∧ M'.1 0 = N.1 0) := by
  obtain ⟨hX, hB, -, -, hN, -⟩ := id hC
  have h8 := hX.1.2.1.2
  generalize hfit : (fun x => aFit B x m) = fit
  generalize hw : (fun t => B.1 65 0 (8 + t)) = w
  have hmore := rR_more (fit := fit) (w := w) (p := p) z (sN B) (fun i h1 h2 => by
    cases hb : bt z.1 i with
    | false => rfl
    | true => have := hz.1 i h2 hb; omega) (by omega) (8 - sN B) (by omega)
  rw [show sN B + (8 - sN B) = 8 by omega] at hmore
  rw [← hmore]
  have key : ∀ t, t ≤ 8 → ∀ N', FC B N' → PU B N' n → MK N' (rRnd fit w p t z) → N'.1 21 0 2 = N.1 21 0 2 → N'.1 0 = N.1 0 → Wp E (d + 12) m_Market_runRound 7 [some (vP 21 0), some (vP 4 0), some (vI (nI m)), some (vI p), some (vI z.1), some (vI (rRnd fit w p t z).1), some (vI (nI t))] [] N' (fun r M' => r = some (vI (rRnd fit w p 8 z).1) ∧ FC B M' ∧ PU B M' n ∧ MK M' (rRnd fit w p 8 z) ∧ M'.1 21 0 2 = N.1 21 0 2 ∧ M'.1 0 = N.1 0) := by
    refine loopUp 8 ?_ ?_
    · intro N' hF hP hM h2 h0
      refine go ok_Market_runRound [] 60 ?_
      refine cLe (by omega) (by omega) (fun _ => ?_) (fun q => absurd q (by omega))
      exact And.intro rfl ⟨hF, hP, hM, h2, h0⟩
    · intro t ht ih N' hF hP hM h2 h0
      have hbt : bt z.1 t = bt (rRnd fit w p t z).1 t := ((rR_left (fit := fit) (w := w) (p := p) z t (by omega) t (by omega)).2 (Nat.le_refl _)).symm
      refine go ok_Market_runRound [7] 60 ?_
      refine cLe (by omega) (by omega) (fun q => absurd q (by omega)) (fun _ => ?_)
      refine xq d ok_CS_has (c_has E d N' _ t (by omega)) (by omega) ?_
      rw [hbt]
      have hst : rRnd fit w p (t + 1) z = rStep fit w p t (rRnd fit w p t z) := rfl
      have hyok : t < sN B → okZ (sN B) (rRnd fit w p t z) := fun h => okZ_rnd (by omega) hz t (by omega)
      generalize rRnd fit w p t z = y at *
      refine brN (fun q => ?_) (fun q => ?_)
      · have htn : t < sN B := hz.1 t (by omega) (by rw [hbt]; exact q)
        have hyo : okZ (sN B) y := hyok htn
        refine xq d ok_CS_bit (c_bit E d N' t) (by omega) ?_
        have hset : ∀ i, i < 32 → bt (N'.1 21 0 3 ||| b1 t) i = true → i < sN B := fun i hi hb => by
          rw [b_or, b1_at (by omega) hi, hM.1] at hb
          by_cases c : i = t
          · rw [c]; exact htn
          · rw [decide_eq_false c, Bool.or_false] at hb
            exact hyo.2.1 i hi hb
        refine x_fitS E d h8 hP hset m hm (by omega) (fun M3 hF3 hP3 => ?_)
        have el : aFit B (N'.1 21 0 3 ||| b1 t) m = fit (y.2.1 ||| b1 t) := by rw [hM.1, ← hfit]
        rw [el]
        have hM3 := MK_fp hF3 hM
        have hFM3 := hF.tr hF3.fc
        have h2M3 : M3.1 21 0 2 = N.1 21 0 2 := by rw [hF3.1 21 0 2 (by omega) (by omega)]; exact h2
        have h0M3 : M3.1 0 = N.1 0 := by
          rw [← h0]
          funext r k
          exact hF3.1 0 r k (by omega) (by omega)
        refine brN (fun qf => ?_) (fun qf => ?_)
        · have hwt : M3.1 6 0 t = w t := by rw [← hw, hFM3.1 6 0 t rfl]; exact (hN.2.2 t htn).2.1
          refine ix t (show _ < 8 by omega) rfl ?_
          refine And.intro (fun v => ?_) (fun v => ?_)
          · have v : M3.1 6 0 t ≤ p := v
            rw [hwt] at v
            have e : rRnd fit w p (t + 1) z = y := by
              rw [hst]; unfold rStep
              rw [q, qf, decide_eq_false (Int32.not_lt.mpr v)]; rfl
            have := ih M3 hFM3 hP3 (by rw [e]; exact hM3) h2M3 h0M3
            rw [e] at this
            exact nm_r (nI_add _ _) this
          · have v : ¬ M3.1 6 0 t ≤ p := v
            rw [hwt] at v
            refine xq d ok_CS_bit (c_bit E d M3 t) (by omega) ?_
            refine xq d ok_CS_bit (c_bit E d _ t) (by omega) ?_
            have e : rRnd fit w p (t + 1) z = (y.1 &&& (b1 t ^^^ -(nI 1)), y.2.1 ||| b1 t, y.2.2.1, y.2.2.2) := by
              rw [hst]; unfold rStep
              rw [q, qf, decide_eq_true (Int32.not_le.mp v)]; rfl
            have := ih (sI M3 21 0 3 (y.2.1 ||| b1 t)) (FC_sI hFM3 rfl) (PU_o hP3 (fun i i1 i2 => by funext r k; rw [sI_at, if_neg (by omega)])) (by
              rw [e]
              refine ⟨?_, ?_, fun u hu => ?_⟩
              · rw [sI_at, if_pos ⟨rfl, rfl, rfl⟩]
              · rw [sI_at, if_neg (by omega)]; exact hM3.2.1
              · rw [sI_at, if_neg (by omega)]; exact hM3.2.2 u hu) (by rw [sI_at, if_neg (by omega)]; exact h2M3) h0M3
            rw [e, ← hM3.1] at this
            exact nm_r (nI_add _ _) this
        · refine xq d ok_CS_bit (c_bit E d M3 t) (by omega) ?_
          refine ix t (show _ < 8 by omega) rfl ?_
          refine xq d ok_CS_bit (c_bit E d _ t) (by omega) ?_
          have e : rRnd fit w p (t + 1) z = (y.1 &&& (b1 t ^^^ -(nI 1)), y.2.1, y.2.2.1 ||| b1 t, upI y.2.2.2 t p) := by
            rw [hst]; unfold rStep
            rw [q, qf]; rfl
          have := ih (sI (sI M3 21 0 4 (y.2.2.1 ||| b1 t)) 22 0 t p) (FC_sI (FC_sI hFM3 rfl) rfl) (PU_o hP3 (fun i i1 i2 => by funext r k; rw [sI_at, if_neg (by omega), sI_at, if_neg (by omega)])) (by
            rw [e]
            refine ⟨?_, ?_, fun u hu => ?_⟩
            · rw [sI_at, if_neg (by omega), sI_at, if_neg (by omega)]; exact hM3.1
            · rw [sI_at, if_neg (by omega), sI_at, if_pos ⟨rfl, rfl, rfl⟩]
            · rw [sI_at]
              dsimp only
              rw [b_or, b1_at (by omega) (by omega)]
              unfold upI
              by_cases c : u = t
              · rw [if_pos ⟨rfl, rfl, c⟩, decide_eq_true c, Bool.or_true, cond_true, if_pos c]
              · rw [if_neg (fun w => c w.2.2), sI_at, if_neg (by omega), decide_eq_false c, Bool.or_false, if_neg c]
                exact hM3.2.2 u hu) (by rw [sI_at, if_neg (by omega), sI_at, if_neg (by omega)]; exact h2M3) h0M3
          rw [e, ← hM3.2.1] at this
          exact nm_r (nI_add _ _) this
      · have e : rRnd fit w p (t + 1) z = y := by rw [hst]; unfold rStep; rw [q]; rfl
        have := ih N' hF hP (by rw [e]; exact hM) h2 h0
        rw [e] at this
        exact nm_r (nI_add _ _) this
  refine Mt.go ok_Market_runRound [7] 60 rfl ?_
  exact key 0 (by omega) N hF hP hM rfl rfl
theorem c_runClock {N : Me} (n : Nat) (hC : CI B) (hV : RVl B) (hF : FC B N) (hP : PU B N n) (m : Nat) (hm : m ≤ 10) (P st : Nat) (hP9 : P ≤ 999) (hs1 : 1 ≤ st) (hs9 : st ≤ 999) : Mt E (d + 13) m_Market_runClock [vP 21 0, vP 4 0, vI (nI m), vI (nI P), vI (nI st)] N (fun r M' => r = none ∧ FC B M' ∧ PU B M' n ∧ M'.1 0 = N.1 0 ∧ M'.1 21 0 2 = nI (aClk B m P st).1 ∧ M'.1 21 0 5 = (aClk B m P st).2.1 ∧ MK M' (aClk B m P st).2) := by
  obtain ⟨hX, hB, -, -, hN, -⟩ := id hC
  have h8 := hX.1.2.1.2
  have hair : ∀ N, FC B N → N.1 4 0 3 = B.1 65 0 24 := fun N h => by rw [h.1 4 0 3 rfl, hN.1]
  have hclk : aClk B m P st = rGo (fun x => aFit B x m) (fun t => B.1 65 0 (8 + t)) (sN B) st P (z0 (B.1 65 0 24)) 0 := rfl
  rw [hclk]
  generalize hfit : (fun x => aFit B x m) = fit
  generalize hw : (fun t => B.1 65 0 (8 + t)) = w
  generalize hc : rGo fit w (sN B) st P (z0 (B.1 65 0 24)) 0 = c
  obtain ⟨vv, hvv⟩ : ∃ v : Nat → Nat, ∀ t, t < sN B → B.1 65 0 (8 + t) = nI (v t) ∧ v t ≤ 999 := by
    refine ⟨fun t => tN (B.1 65 0 (8 + t)), fun t ht => ?_⟩
    obtain ⟨v, h1, h2⟩ := hV t ht
    show B.1 65 0 (8 + t) = nI (tN (B.1 65 0 (8 + t))) ∧ tN (B.1 65 0 (8 + t)) ≤ 999
    rw [h1, tN_nI (by omega)]
    exact ⟨rfl, h2⟩
  -- the end
  have fin : ∀ (i : Nat) (N' : Me) (r : Nat) (z : C4), i ≤ 1000 → (r, z) = c → FC B N' → PU B N' n → N'.1 0 = N.1 0 → N'.1 21 0 2 = nI r → MK N' z → ∀ P' j9 j10, Wp E (d + 13) m_Market_runClock 54 [some (vP 21 0), some (vP 4 0), some (vI (nI m)), some (vI (nI P)), some (vI (nI st)), some (vI P'), some (vI z.1), some (vI (nI 1)), some (vI (nI i)), j9, j10] [] N' (fun r M' => r = none ∧ FC B M' ∧ PU B M' n ∧ M'.1 0 = N.1 0 ∧ M'.1 21 0 2 = nI c.1 ∧ M'.1 21 0 5 = c.2.1 ∧ MK M' c.2) := by
    intro i N' r z hi he hF hP h0 h2 hM P' j9 j10
    rw [← he]
    have ret : r = r ∧ FC B (sI N' 21 0 5 z.1) ∧ PU B (sI N' 21 0 5 z.1) n ∧ (sI N' 21 0 5 z.1).1 0 = N.1 0 ∧ (sI N' 21 0 5 z.1).1 21 0 2 = nI r ∧ (sI N' 21 0 5 z.1).1 21 0 5 = z.1 ∧ MK (sI N' 21 0 5 z.1) z := by
      refine ⟨rfl, FC_sI hF rfl, PU_o hP (fun i i1 i2 => by funext r k; rw [sI_at, if_neg (by omega)]), h0, ?_, ?_, ?_, ?_, fun u hu => ?_⟩
      · rw [sI_at, if_neg (by omega)]; exact h2
      · rw [sI_at, if_pos ⟨rfl, rfl, rfl⟩]
      · rw [sI_at, if_neg (by omega)]; exact hM.1
      · rw [sI_at, if_neg (by omega)]; exact hM.2.1
      · rw [sI_at, if_neg (by omega)]; exact hM.2.2 u hu
    refine go ok_Market_runClock [] 60 ?_
    refine cLt (by omega) (by omega) (fun _ => ?_) (fun _ => ?_)
    · exact And.intro rfl ret.2
    · refine And.intro (fun _ => ?_) (fun e => absurd e (by decide))
      exact And.intro rfl ret.2
  have loop : ∀ i, i ≤ 1000 → ∀ (p : Nat) (z : C4) (r : Nat) (N' : Me), p + i ≤ 999 → rGo fit w (sN B) st p z r = c → okZ (sN B) z → FC B N' → PU B N' n → N'.1 0 = N.1 0 → N'.1 21 0 2 = nI r → MK N' z → ∀ j9 j10, Wp E (d + 13) m_Market_runClock 54 [some (vP 21 0), some (vP 4 0), some (vI (nI m)), some (vI (nI P)), some (vI (nI st)), some (vI (nI p)), some (vI z.1), some (vI (nI 0)), some (vI (nI i)), j9, j10] [] N' (fun r M' => r = none ∧ FC B M' ∧ PU B M' n ∧ M'.1 0 = N.1 0 ∧ M'.1 21 0 2 = nI c.1 ∧ M'.1 21 0 5 = c.2.1 ∧ MK M' c.2) := by
    refine loopUp 1000 ?_ ?_
    · intro p z r N' hpi
      omega
    · intro i hi ih p z r N' hpi hgo hz hF hP h0 h2 hM j9 j10
      rw [rGo_eq hs1] at hgo
      refine go ok_Market_runClock [54, 95] 60 ?_
      refine cLt (by omega) (by omega) (fun q => absurd q (by omega)) (fun _ => ?_)
      refine And.intro (fun e => absurd rfl e) (fun _ => ?_)
      have hx := c_runRound E d n hC hF hP m hm (nI p) z hz hM
      rw [hfit, hw] at hx
      refine xc (d + 12) ok_Market_runRound hx (by omega) ?_
      rintro rr N1 ⟨rfl, hF1, hP1, hM1, h21, h01⟩
      have hz1 := okZ_rnd (fit := fit) (w := w) (p := nI p) (show sN B ≤ 32 by omega) hz (sN B) (Nat.le_refl _)
      have hstay := hM.1
      generalize hy : rRnd fit w (nI p) (sN B) z = y at *
      have er : N1.1 21 0 2 + nI 1 = nI (r + 1) := by rw [h21, h2, nI_add]
      have n2F : FC B (sI N1 21 0 2 (nI (r + 1))) := FC_sI hF1 rfl
      have n2P : PU B (sI N1 21 0 2 (nI (r + 1))) n := PU_o hP1 (fun i i1 i2 => by funext r k; rw [sI_at, if_neg (by omega)])
      have n2M : MK (sI N1 21 0 2 (nI (r + 1))) y := ⟨by rw [sI_at, if_neg (by omega)]; exact hM1.1, by rw [sI_at, if_neg (by omega)]; exact hM1.2.1, fun u hu => by rw [sI_at, if_neg (by omega)]; exact hM1.2.2 u hu⟩
      have n20 : (sI N1 21 0 2 (nI (r + 1))).1 0 = N.1 0 := by rw [← h0, ← h01]; rfl
      have n22 : (sI N1 21 0 2 (nI (r + 1))).1 21 0 2 = nI (r + 1) := by rw [sI_at, if_pos ⟨rfl, rfl, rfl⟩]
      generalize hN2 : sI N1 21 0 2 (nI (r + 1)) = N2 at *
      -- over
      have over : (r + 1, y) = c → Wp E (d + 13) m_Market_runClock 110 [some (vP 21 0), some (vP 4 0), some (vI (nI m)), some (vI (nI P)), some (vI (nI st)), some (vI (nI p)), some (vI y.1), some (vI (nI 0)), some (vI (nI i)), some (vI z.2.1), j10] [vI (nI 1)] N2 (fun r M' => r = none ∧ FC B M' ∧ PU B M' n ∧ M'.1 0 = N.1 0 ∧ M'.1 21 0 2 = nI c.1 ∧ M'.1 21 0 5 = c.2.1 ∧ MK M' c.2) := by
        intro he
        refine go ok_Market_runClock [54] 60 ?_
        refine And.intro (fun _ => ?_) (fun e => absurd e (by decide))
        exact nm_r (nI_add _ _) (fin (i + 1) N2 (r + 1) y (by omega) he n2F n2P n20 n22 n2M _ _ _)
      have goon : ¬ y.1 = nI 0 → p ≠ 0 → rGo fit w (sN B) st (p - st) y (r + 1) = c → Wp E (d + 13) m_Market_runClock 110 [some (vP 21 0), some (vP 4 0), some (vI (nI m)), some (vI (nI P)), some (vI (nI st)), some (vI (nI p)), some (vI y.1), some (vI (nI 0)), some (vI (nI i)), some (vI z.2.1), j10] [vI (nI 0)] N2 (fun r M' => r = none ∧ FC B M' ∧ PU B M' n ∧ M'.1 0 = N.1 0 ∧ M'.1 21 0 2 = nI c.1 ∧ M'.1 21 0 5 = c.2.1 ∧ MK M' c.2) := by
        intro hy0 hp0 he
        -- with so many quiet rounds
        have f140 : ∀ q, q * st ≤ 999 → q ≤ 999 → rGo fit w (sN B) st (p - (q + 1) * st) y (r + 1 + q) = c → Wp E (d + 13) m_Market_runClock 140 [some (vP 21 0), some (vP 4 0), some (vI (nI m)), some (vI (nI P)), some (vI (nI st)), some (vI (nI p)), some (vI y.1), some (vI (nI 0)), some (vI (nI i)), some (vI z.2.1), j10] [vI (nI q)] N2 (fun r M' => r = none ∧ FC B M' ∧ PU B M' n ∧ M'.1 0 = N.1 0 ∧ M'.1 21 0 2 = nI c.1 ∧ M'.1 21 0 5 = c.2.1 ∧ MK M' c.2) := by
          intro q hq hq9 he2
          have es : (q + 1) * st = q * st + st := Nat.succ_mul q st
          refine go ok_Market_runClock [54] 60 ?_
          refine nm_r (nI_add _ _) ?_
          have er2 : N2.1 21 0 2 + nI q = nI (r + 1 + q) := by rw [n22, nI_s8]
          have ep : (if nI p - (nI q + nI 1) * nI st < nI 0 then nI 0 else nI p - (nI q + nI 1) * nI st) = nI (p - (q + 1) * st) := by
            rw [nI_add, nI_mul]
            by_cases c1 : (q + 1) * st ≤ p
            · rw [pk_sub c1, if_neg (fun z => by have := (nI_ltI (by omega) (by omega)).mp z; omega)]
            · have : nI p - nI ((q + 1) * st) < nI 0 := by
                rw [Int32.lt_iff_toInt_lt, pk_sub_toInt (by omega) (by omega), nI_toInt (by omega)]
                omega
              rw [if_pos this, show p - (q + 1) * st = 0 by omega]
          have := ih (p - (q + 1) * st) y (r + 1 + q) (sI N2 21 0 2 (nI (r + 1 + q))) (by omega) he2 hz1 (FC_sI n2F rfl) (PU_o n2P (fun i i1 i2 => by funext r k; rw [sI_at, if_neg (by omega)])) (by rw [← n20]; rfl) (by rw [sI_at, if_pos ⟨rfl, rfl, rfl⟩]) ⟨by rw [sI_at, if_neg (by omega)]; exact n2M.1, by rw [sI_at, if_neg (by omega)]; exact n2M.2.1, fun u hu => by rw [sI_at, if_neg (by omega)]; exact n2M.2.2 u hu⟩ (some (vI z.2.1)) (some (vI (nI q)))
          rw [← ep, ← er2] at this
          exact this
        refine go ok_Market_runClock [140] 60 ?_
        refine And.intro (fun e => absurd rfl e) (fun _ => ?_)
        refine And.intro (fun _ => ?_) (fun v => ?_)
        · refine f140 0 (by omega) (by omega) ?_
          rw [Nat.zero_add, Nat.one_mul, Nat.add_zero]; exact he
        · have v : N2.1 21 0 3 = z.2.1 := v
          rw [n2M.1] at v
          have hqz := rR_quiet (fit := fit) (w := w) (p := nI p) z (sN B) (by omega) (fun i hi => by rw [hy, v])
          rw [hy] at hqz
          have hxv : ∀ t, t < sN B → N2.1 6 0 t = nI (vv t) ∧ vv t ≤ 999 := fun t ht => by
            rw [n2F.1 6 0 t rfl, (hN.2.2 t ht).2.1]; exact hvv t ht
          refine xq (d + 1) ok_Market_quietRounds (c_quietRounds E d vv y.1 (sN B) h8 (fun t t1 t2 => by
            cases hb : bt y.1 t with
            | false => rfl
            | true => have := hz1.1 t (by omega) hb; omega) hxv p st (by omega) hs1 hs9) (by omega) ?_
          obtain ⟨g1, g2⟩ := grt_ge (v := vv) (x := y.1) (sN B)
          by_cases cg : p < grt vv y.1 (sN B)
          · rw [if_pos cg]
            refine f140 0 (by omega) (by omega) ?_
            rw [Nat.zero_add, Nat.one_mul, Nat.add_zero]; exact he
          · rw [if_neg cg]
            have hdm : (p - grt vv y.1 (sN B)) / st * st ≤ p - grt vv y.1 (sN B) := Nat.div_mul_le_self _ _
            have hdl : (p - grt vv y.1 (sN B)) / st ≤ p - grt vv y.1 (sN B) := Nat.div_le_self _ _
            refine f140 _ (by omega) (by omega) ?_
            rw [← he]
            refine (rGo_skip hs1 (g := grt vv y.1 (sN B)) g1 hy0 (fun p' hp1 hp2 => ?_) _ (by omega)).symm
            refine rR_same y (sN B) (fun s hs hb => ?_)
            obtain ⟨a1, a2⟩ := hqz s hs hb
            refine ⟨by rw [v]; exact a1, fun hlt => ?_⟩
            have hws : w s = nI (vv s) := by rw [← hw]; exact (hvv s hs).1
            rw [hws] at hlt
            have := (nI_ltI (by omega) (by have := (hvv s hs).2; omega)).mp hlt
            have := g2 s hs hb
            omega
      have hover : Wp E (d + 13) m_Market_runClock 95 [some (vP 21 0), some (vP 4 0), some (vI (nI m)), some (vI (nI P)), some (vI (nI st)), some (vI (nI p)), some (vI y.1), some (vI (nI 0)), some (vI (nI i)), some (vI z.2.1), j10] [] N2 (fun r M' => r = none ∧ FC B M' ∧ PU B M' n ∧ M'.1 0 = N.1 0 ∧ M'.1 21 0 2 = nI c.1 ∧ M'.1 21 0 5 = c.2.1 ∧ MK M' c.2) := by
        refine go ok_Market_runClock [110] 60 ?_
        refine And.intro (fun v => ?_) (fun v => ?_)
        · have v : y.1 = nI 0 := v
          rw [decide_eq_true v] at hgo
          exact over hgo
        · have v : ¬ y.1 = nI 0 := v
          rw [decide_eq_false v, Bool.false_or] at hgo
          refine cNe (by omega) (by omega) (fun v2 => ?_) (fun v2 => ?_)
          · rw [decide_eq_false v2] at hgo
            exact goon v v2 hgo
          · rw [decide_eq_true v2] at hgo
            exact over hgo
      rw [← hN2, ← er, ← hstay] at hover
      exact hover
  have clr0 : ∀ k, k ≤ 8 → ∀ N', N' = setR (sI (sI (sI N 21 0 2 (nI 0)) 21 0 3 (nI 0)) 21 0 4 (nI 0)) 22 0 0 k (fun _ => nI 0) → ∀ j, Wp E (d + 13) m_Market_runClock 18 [some (vP 21 0), some (vP 4 0), some (vI (nI m)), some (vI (nI P)), some (vI (nI st)), some (vI (nI k)), j, none, none, none, none] [] N' (fun r M' => r = none ∧ FC B M' ∧ PU B M' n ∧ M'.1 0 = N.1 0 ∧ M'.1 21 0 2 = nI c.1 ∧ M'.1 21 0 5 = c.2.1 ∧ MK M' c.2) := by
    refine loopUp 8 ?_ ?_
    · rintro N' hN' j
      refine go ok_Market_runClock [54] 60 ?_
      refine cLe (by omega) (by omega) (fun _ => ?_) (fun q => absurd q (by omega))
      have at0 : ∀ i r k, ¬ (i = 21 ∨ i = 22) → N'.1 i r k = N.1 i r k := fun i r k h => by
        rw [hN', setR_out (by omega), sI_at, if_neg (by omega), sI_at, if_neg (by omega), sI_at, if_neg (by omega)]
      have hFN : FC B N' := by
        refine hF.tr ⟨fun i r k e => at0 i r k (fun h => ?_), by rw [hN']; rfl⟩
        rcases h with h | h <;> (rw [h] at e; cases e)
      have hair2 := hair N' hFN
      have hz0 : okZ (sN B) (z0 (B.1 65 0 24)) := by
        refine ⟨fun i hi hb => air_lt hB hb, fun i hi hb => ?_, fun i hi hb => ?_, fun t _ => rfl⟩
        · rw [show (z0 (B.1 65 0 24)).2.1 = nI 0 from rfl, b_0] at hb; cases hb
        · rw [show (z0 (B.1 65 0 24)).2.2.1 = nI 0 from rfl, b_0] at hb; cases hb
      have := loop 0 (by omega) P (z0 (B.1 65 0 24)) 0 N' (by omega) hc hz0 hFN (PU_o hP (fun i i1 i2 => by funext r k; exact at0 i r k (by omega))) (by funext r k; exact at0 0 r k (by omega)) ?_ ⟨?_, ?_, fun u hu => ?_⟩ none none
      · rw [show (z0 (B.1 65 0 24)).1 = B.1 65 0 24 from rfl, ← hair2] at this
        exact this
      · rw [hN', setR_out (by omega), sI_at, if_neg (by omega), sI_at, if_neg (by omega), sI_at, if_pos ⟨rfl, rfl, rfl⟩]
      · rw [hN', setR_out (by omega), sI_at, if_neg (by omega), sI_at, if_pos ⟨rfl, rfl, rfl⟩]; rfl
      · rw [hN', setR_out (by omega), sI_at, if_pos ⟨rfl, rfl, rfl⟩]; rfl
      · have h := setR_at (M := sI (sI (sI N 21 0 2 (nI 0)) 21 0 3 (nI 0)) 21 0 4 (nI 0)) (i := 22) (r := 0) (lo := 0) (n := 8) (f := fun _ => nI 0) (k := u) hu
        rw [Nat.zero_add] at h
        rw [hN', h, show (z0 (B.1 65 0 24)).2.2.1 = nI 0 from rfl, b_0]; rfl
    · rintro k hk ih N' rfl j
      refine go ok_Market_runClock [18] 60 ?_
      refine cLe (by omega) (by omega) (fun q => absurd q (by omega)) (fun _ => ?_)
      refine ix k (show _ < 8 by omega) rfl ?_
      refine nm_r (nI_add _ _) (ih _ ?_ _)
      rw [← setR_step, Nat.zero_add]
  refine Mt.go ok_Market_runClock [18] 60 rfl ?_
  exact clr0 0 (by omega) _ (setR_0 _ _ _ _ _).symm none
end M2
