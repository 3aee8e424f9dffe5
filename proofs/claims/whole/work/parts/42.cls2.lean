/-! the class: what it asks of its arguments; the plain questions -/
abbrev pl (M : Me) : Nat := M.2.2 0 0 9
/-- the reaches are within their bounds -/
def RcB (M : Me) : Prop := ∀ s, s < sN M → ∃ z, M.1 62 0 (3 * s + 2) = nI z ∧ z ≤ 60
def CI (M : Me) : Prop := RX M ∧ RB M ∧ hT M = decide (0 < sN M) ∧ CWp M (pl M) ∧ CWn M ∧ M.1 8 0 2 = M.1 60 0 29 ∧ (hT M = true → 1 ≤ cN M) ∧ RcB M
abbrev CQ (M : Me) (p : AT) : Option AV → Me → Prop := fun r M' => r = some (vI p.1) ∧ M' = sI M 0 0 11 p.2
theorem sI_sI (M : Me) (i r k : Nat) (x y : Int32) : sI (sI M i r k x) i r k y = sI M i r k y := by
  refine Prod.ext ?_ rfl
  funext a b c
  show (sI (sI M i r k x) i r k y).1 a b c = (sI M i r k y).1 a b c
  rw [sI_at, sI_at, sI_at]
  by_cases h : a = i ∧ b = r ∧ c = k
  · rw [if_pos h, if_pos h]
  · rw [if_neg h, if_neg h, if_neg h]
def rf2 (a b : Bool) : Nat := bif !a then 1 else bif !b then 2 else 0
section C2
variable (E : EV) (d : Nat) (M : Me)
theorem c_refused (t : Int32) : Mt E d m_CS_refused [vP 0 0, vI t] M (fun r M' => r = some (vI (-(nI 1))) ∧ M' = sI M 0 0 11 t) := Mt.go ok_CS_refused [] 30 rfl (And.intro rfl rfl)
theorem c_answered (v : Int32) : Mt E d m_CS_answered [vP 0 0, vI v] M (fun r M' => r = some (vI v) ∧ M' = sI M 0 0 11 (nI 0)) := Mt.go ok_CS_answered [] 30 rfl (And.intro rfl rfl)
theorem x_cref {K : Option AV → Me → Prop} {m : Me} (t : Int32) (h0 : 0 < d) (hk : K (some (vI (-(nI 1)))) (sI m 0 0 11 t)) : codeW m_CS_refused ∈ TW ∧ CallK E d m_CS_refused [vP 0 0, vI t] m K :=
  xc 0 ok_CS_refused (c_refused E 0 m t) h0 (fun r M' h => by rw [h.1, h.2]; exact hk)
theorem x_cans {K : Option AV → Me → Prop} {m : Me} (v : Int32) (h0 : 0 < d) (hk : K (some (vI v)) (sI m 0 0 11 (nI 0))) : codeW m_CS_answered ∈ TW ∧ CallK E d m_CS_answered [vP 0 0, vI v] m K :=
  xc 0 ok_CS_answered (c_answered E 0 m v) h0 (fun r M' h => by rw [h.1, h.2]; exact hk)
theorem c_isRefused (a b : Bool) : Mt E d m_CS_isRefused [vP 0 0, vI (bI a), vI (bI b)] M (fun r M' => r = some (vI (bI (decide (rf2 a b ≠ 0)))) ∧ M' = sI M 0 0 11 (nI (rf2 a b))) := by
  refine Mt.go ok_CS_isRefused [] 60 rfl ?_
  cases a with
  | false =>
    refine And.intro (fun e => absurd rfl e) (fun _ => ?_)
    refine And.intro (fun e => absurd (show nI 1 = nI 0 from e) (by decide)) (fun _ => ?_)
    exact And.intro (Or.inr rfl) (And.intro rfl rfl)
  | true =>
    refine And.intro (fun _ => ?_) (fun e => absurd e (by decide))
    cases b with
    | false =>
      refine And.intro (fun e => absurd rfl e) (fun _ => ?_)
      refine And.intro (fun e => absurd (show nI 2 = nI 0 from e) (by decide)) (fun _ => ?_)
      exact And.intro (Or.inr rfl) (And.intro rfl rfl)
    | true =>
      refine And.intro (fun _ => ?_) (fun e => absurd e (by decide))
      refine And.intro (fun _ => ?_) (fun e => absurd (show nI 0 = nI 0 from rfl) e)
      exact And.intro (Or.inl rfl) (And.intro rfl rfl)
theorem c_hasText (h : CI M) : Mt E d m_CS_hasText [vP 0 0] M (RP (vI (bI (hT M))) M) := by
  obtain ⟨⟨hR, -⟩, -, hx, hW, -⟩ := h
  have hn := hR.2.1
  have hc : M.1 31 (pl M) 5 = nI (sN M) := by rw [hW.1.2.1, hn.1]
  refine Mt.go ok_CS_hasText [] 60 rfl ?_
  refine qLe hc rfl (by omega) (by omega) (fun q => ?_) (fun q => ?_)
  · refine And.intro (Or.inl rfl) (And.intro ?_ rfl)
    rw [hx, decide_eq_false (by omega)]; rfl
  · refine And.intro (Or.inr rfl) (And.intro ?_ rfl)
    rw [hx, decide_eq_true q]; rfl
theorem c_isStation (h : CI M) (x : Int32) : Mt E d m_CS_isStation [vP 0 0, vI x] M (RP (vI (bI (aSt M x))) M) := by
  obtain ⟨⟨hR, -⟩, -, hx, hW, -⟩ := h
  have hn := hR.2.1
  have hc : M.1 31 (pl M) 5 = nI (sN M) := by rw [hW.1.2.1, hn.1]
  refine Mt.go ok_CS_isStation [] 60 rfl ?_
  refine And.intro (fun q => ?_) (fun q => ?_)
  · refine And.intro (Or.inl rfl) (And.intro ?_ rfl)
    have : aSt M x = false := by
      unfold aSt
      rw [decide_eq_false (Int32.not_le.mpr q)]; simp
    rw [this]; rfl
  · obtain ⟨k, hk, rfl⟩ := nneg (Int32.not_lt.mp q)
    refine qLe hc rfl (by omega) hk (fun z => ?_) (fun z => ?_)
    · refine And.intro (Or.inl rfl) (And.intro ?_ rfl)
      have : aSt M (nI k) = false := by
        cases hs : aSt M (nI k) with
        | false => rfl
        | true =>
          obtain ⟨s, h1, h2⟩ := aSt_at hR hs
          have := (nI_eq hk (by omega)).mp h2
          omega
      rw [this]; rfl
    · refine And.intro (Or.inr rfl) (And.intro ?_ rfl)
      have : aSt M (nI k) = true := by
        unfold aSt
        rw [hx, decide_eq_true (by omega), nI_m1 (by omega), decide_eq_true ((nI_leI (by omega) hk).mpr (Nat.zero_le k)), decide_eq_true ((nI_leI hk (by omega)).mpr (by omega))]; rfl
      rw [this]; rfl
theorem c_isChannel (h : CI M) (x : Int32) : Mt E d m_CS_isChannel [vP 0 0, vI x] M (RP (vI (bI (aCh M x))) M) := by
  obtain ⟨⟨hR, -⟩, -, -, hW, -⟩ := h
  have hc : M.1 30 (pl M) 10 = nI (cN M) := by rw [hW.1.1, hR.1.1]
  refine Mt.go ok_CS_isChannel [] 60 rfl ?_
  refine And.intro (fun q => ?_) (fun q => ?_)
  · refine And.intro (Or.inl rfl) (And.intro ?_ rfl)
    have : aCh M x = false := by unfold aCh; rw [decide_eq_false (Int32.not_le.mpr q)]; rfl
    rw [this]; rfl
  · refine And.intro (fun z => ?_) (fun z => ?_)
    · refine And.intro (Or.inl rfl) (And.intro ?_ rfl)
      have z : M.1 30 (pl M) 10 < x := z
      rw [hc] at z
      have : aCh M x = false := by unfold aCh; rw [decide_eq_false (Int32.not_le.mpr z), Bool.and_false]
      rw [this]; rfl
    · refine And.intro (Or.inr rfl) (And.intro ?_ rfl)
      have z : ¬ M.1 30 (pl M) 10 < x := z
      rw [hc] at z
      have : aCh M x = true := by unfold aCh; rw [decide_eq_true (Int32.not_lt.mp z), decide_eq_true (Int32.not_lt.mp q)]; rfl
      rw [this]; rfl
theorem c_isSet (h : CI M) (x : Int32) : Mt E (d + 1) m_CS_isSet [vP 0 0, vI x] M (RP (vI (bI (aSet M x))) M) := by
  obtain ⟨⟨hR, -⟩, -, -, hW, -⟩ := h
  have hn := hR.2.1
  have hc : M.1 31 (pl M) 5 = nI (sN M) := by rw [hW.1.2.1, hn.1]
  have h2 : 2 ^ sN M ≤ 2 ^ 8 := Nat.pow_le_pow_right (by omega) hn.2
  have h1 : 0 < 2 ^ sN M := Nat.two_pow_pos _
  refine Mt.go ok_CS_isSet [] 60 rfl ?_
  refine And.intro (fun q => ?_) (fun q => ?_)
  · refine And.intro (Or.inl rfl) (And.intro ?_ rfl)
    have : aSet M x = false := by unfold aSet; rw [decide_eq_false (Int32.not_le.mpr q)]; rfl
    rw [this]; rfl
  · obtain ⟨k, hk, rfl⟩ := nneg (Int32.not_lt.mp q)
    have hx := c_bit E d M (sN M)
    rw [← hc] at hx
    refine xq d ok_CS_bit hx (by omega) ?_
    rw [b1_nI _ (by omega)]
    refine cLe (by omega) hk (fun z => ?_) (fun z => ?_)
    · refine And.intro (Or.inl rfl) (And.intro ?_ rfl)
      have : aSet M (nI k) = false := by
        unfold aSet
        rw [show decide (nI k ≤ nI (2 ^ sN M - 1)) = false from decide_eq_false (fun w => by
          have := (nI_leI hk (by omega)).mp w
          omega), Bool.and_false]
      rw [this]; rfl
    · refine And.intro (Or.inr rfl) (And.intro ?_ rfl)
      have : aSet M (nI k) = true := by
        unfold aSet
        rw [decide_eq_true ((nI_leI (by omega) hk).mpr (Nat.zero_le k)), decide_eq_true ((nI_leI hk (by omega)).mpr (by omega))]; rfl
      rw [this]; rfl
theorem c_isPrice (x : Int32) : Mt E d m_CS_isPrice [vI x] M (RP (vI (bI (in3 x 999))) M) := by
  refine Mt.go ok_CS_isPrice [] 60 rfl ?_
  refine And.intro (fun q => ?_) (fun q => ?_)
  · refine And.intro (Or.inl rfl) (And.intro ?_ rfl)
    have : in3 x 999 = false := by unfold in3; rw [decide_eq_false (Int32.not_le.mpr q)]; rfl
    rw [this]; rfl
  · refine And.intro (fun z => ?_) (fun z => ?_)
    · refine And.intro (Or.inl rfl) (And.intro ?_ rfl)
      have : in3 x 999 = false := by unfold in3; rw [decide_eq_false (Int32.not_le.mpr z), Bool.and_false]
      rw [this]; rfl
    · refine And.intro (Or.inr rfl) (And.intro ?_ rfl)
      have : in3 x 999 = true := by unfold in3; rw [decide_eq_true (Int32.not_lt.mp z), decide_eq_true (Int32.not_lt.mp q)]; rfl
      rw [this]; rfl
theorem c_isPlace (x : Int32) : Mt E d m_CS_isPlace [vI x] M (RP (vI (bI (in3 x 99))) M) := by
  refine Mt.go ok_CS_isPlace [] 60 rfl ?_
  refine And.intro (fun q => ?_) (fun q => ?_)
  · refine And.intro (Or.inl rfl) (And.intro ?_ rfl)
    have : in3 x 99 = false := by unfold in3; rw [decide_eq_false (Int32.not_le.mpr q)]; rfl
    rw [this]; rfl
  · refine And.intro (fun z => ?_) (fun z => ?_)
    · refine And.intro (Or.inl rfl) (And.intro ?_ rfl)
      have : in3 x 99 = false := by unfold in3; rw [decide_eq_false (Int32.not_le.mpr z), Bool.and_false]
      rw [this]; rfl
    · refine And.intro (Or.inr rfl) (And.intro ?_ rfl)
      have : in3 x 99 = true := by unfold in3; rw [decide_eq_true (Int32.not_lt.mp z), decide_eq_true (Int32.not_lt.mp q)]; rfl
      rw [this]; rfl
theorem c_isClock (h : CI M) (x y z : Int32) : Mt E (d + 1) m_CS_isClock [vP 0 0, vI x, vI y, vI z] M (RP (vI (bI (aCk M x y z))) M) := by
  refine Mt.go ok_CS_isClock [] 60 rfl ?_
  refine xq d ok_CS_isChannel (c_isChannel E d M h x) (by omega) ?_
  refine brF (fun q => ?_) (fun q => ?_)
  · refine And.intro (Or.inl rfl) (And.intro ?_ rfl)
    unfold aCk; rw [q]; rfl
  · refine xq d ok_CS_isPrice (c_isPrice E d M y) (by omega) ?_
    refine brF (fun q2 => ?_) (fun q2 => ?_)
    · refine And.intro (Or.inl rfl) (And.intro ?_ rfl)
      unfold aCk; rw [q2, Bool.false_and, Bool.and_false]; rfl
    · refine xq d ok_CS_isPrice (c_isPrice E d M z) (by omega) ?_
      refine brF (fun q3 => ?_) (fun q3 => ?_)
      · refine And.intro (Or.inl rfl) (And.intro ?_ rfl)
        have : (decide (nI 1 ≤ z) && decide (z ≤ nI 999)) = false := by
          unfold in3 at q3
          cases h1 : decide (z ≤ nI 999) with
          | false => rw [Bool.and_false]
          | true =>
            rw [h1, Bool.and_true] at q3
            have q3 := of_decide_eq_false q3
            rw [Bool.and_true]
            refine decide_eq_false (fun w => q3 ?_)
            have w1 := Int32.le_iff_toInt_le.mp w
            refine Int32.le_iff_toInt_le.mpr ?_
            rw [nI_toInt (by omega)] at w1 ⊢
            omega
        unfold aCk; rw [this, Bool.and_false, Bool.and_false]; rfl
      · have q4 := q3
        unfold in3 at q4
        simp only [Bool.and_eq_true, decide_eq_true_eq] at q4
        obtain ⟨k, hk, rfl⟩ := nneg q4.1
        refine cLe hk (by omega) (fun w => ?_) (fun w => ?_)
        · refine And.intro (Or.inl rfl) (And.intro ?_ rfl)
          have : decide (nI 1 ≤ nI k) = false := decide_eq_false (fun v => by have := (nI_leI (by omega) hk).mp v; omega)
          unfold aCk; rw [this, Bool.false_and, Bool.and_false, Bool.and_false]; rfl
        · refine And.intro (Or.inr rfl) (And.intro ?_ rfl)
          unfold aCk; rw [q, q2, decide_eq_true ((nI_leI (by omega) hk).mpr w), decide_eq_true q4.2]; rfl
theorem c_fault : Mt E d m_CS_fault [vP 0 0] M (RP (vI (M.1 0 0 12)) M) := Mt.go ok_CS_fault [] 30 rfl (And.intro rfl rfl)
theorem c_bytes : Mt E d m_CS_bytes [vP 0 0] M (RP (vI (M.1 1 0 1)) M) := Mt.go ok_CS_bytes [] 30 rfl (And.intro rfl rfl)
theorem c_trouble : Mt E d m_CS_trouble [vP 0 0] M (RP (vI (M.1 0 0 11)) M) := Mt.go ok_CS_trouble [] 30 rfl (And.intro rfl rfl)
theorem c_where : Mt E d m_CS_where [vP 0 0] M (RP (vI (if M.1 0 0 11 = nI 4 then M.1 0 0 13 else -(nI 1))) M) := by
  refine Mt.go ok_CS_where [] 30 rfl ?_
  refine And.intro (fun q => ?_) (fun q => ?_)
  · refine And.intro ?_ rfl
    rw [if_neg q]
  · refine And.intro ?_ rfl
    rw [if_pos q]
theorem c_far (h : CI M) (x y : Int32) : Mt E (d + 1) m_CS_far [vP 0 0, vI x, vI y] M (CQ M (qFar M x y)) := by
  obtain ⟨⟨hR, -⟩, -, hx, hW, -⟩ := id h
  have h8 := hR.2.1.2
  refine Mt.go ok_CS_far [] 60 rfl ?_
  refine xq d ok_CS_isStation (c_isStation E d M h x) (by omega) ?_
  refine brF (fun q => ?_) (fun q => ?_)
  · refine x_cref E _ (nI 1) (by omega) ?_
    have e : qFar M x y = no 1 := by unfold qFar; rw [q]; rfl
    rw [e]; exact And.intro rfl rfl
  · refine xq d ok_CS_isStation (c_isStation E d M h y) (by omega) ?_
    refine brN (fun q2 => ?_) (fun q2 => ?_)
    · have e : qFar M x y = ye (aFar M (tN x) (tN y)) := by unfold qFar; rw [q, q2]; rfl
      rw [e]
      obtain ⟨s, hs, rfl⟩ := aSt_at hR q
      obtain ⟨t, ht, rfl⟩ := aSt_at hR q2
      rw [tN_nI (by omega), tN_nI (by omega)]
      refine ix s (show _ < 8 by omega) rfl ?_
      refine ix s (show _ < 8 by omega) rfl ?_
      refine xq d ok_Sites_farFrom (c_farFrom E d M 31 (pl M) (Or.inl rfl) 8 (Or.inl ⟨rfl, rfl⟩) hW.1.2.2.2.1 t (by omega) _ _) (by omega) ?_
      refine x_cans E _ _ (by omega) ?_
      refine And.intro ?_ rfl
      have e1 : cFar M 31 (pl M) t (M.1 32 (pl M) s) (M.1 33 (pl M) s) = aFar M s t := by
        unfold cFar aFar
        obtain ⟨a1, a2, -⟩ := hW.2.2.1 s hs
        obtain ⟨b1, b2, -⟩ := hW.2.2.1 t ht
        rw [a1, a2, show M.1 (31 + 1) (pl M) t = _ from b1, show M.1 (31 + 2) (pl M) t = _ from b2]
        have sq : ∀ u v : Int32, (u - v) * (u - v) = (v - u) * (v - u) := fun u v => by
          have e : u - v = -(v - u) := Int32.neg_sub.symm
          rw [e, Int32.neg_mul, Int32.mul_neg, Int32.neg_neg]
        rw [sq (M.1 62 0 (3 * t)), sq (M.1 62 0 (3 * t + 1))]
      rw [e1]; rfl
    · refine x_cref E _ (nI 1) (by omega) ?_
      have e : qFar M x y = no 1 := by unfold qFar; rw [q2, Bool.and_false]; rfl
      rw [e]; exact And.intro rfl rfl
theorem c_free (h : CI M) (x : Int32) : Mt E (d + 5) m_CS_free [vP 0 0, vI x] M (CQ M (qFree M x)) := by
  obtain ⟨⟨hR, -⟩, hB, hx, hW, hN, -⟩ := id h
  have h8 := hR.2.1.2
  refine Mt.go ok_CS_free [] 60 rfl ?_
  refine xq d ok_CS_isStation (c_isStation E d M h x) (by omega) ?_
  refine brN (fun q => ?_) (fun q => ?_)
  · obtain ⟨s, hs, rfl⟩ := aSt_at hR q
    refine xq (d + 4) ok_Now_freeChannels (c_freeChannels E d M hR hB hW hN s hs) (by omega) ?_
    refine x_cans E _ _ (by omega) ?_
    have e : qFree M (nI s) = ye (S32 (fun i => decide (i < cN M) && aMay M s (i + 1))) := by unfold qFree; rw [if_neg (by rw [q]; decide), tN_nI (by omega)]
    rw [e]; exact And.intro rfl rfl
  · refine x_cref E _ (nI 1) (by omega) ?_
    have e : qFree M x = no 1 := by unfold qFree; rw [if_pos q]
    rw [e]; exact And.intro rfl rfl
theorem c_on (h : CI M) (x : Int32) : Mt E (d + 2) m_CS_on [vP 0 0, vI x] M (CQ M (qOn M x)) := by
  obtain ⟨⟨hR, -⟩, hB, hx, hW, hN, -⟩ := id h
  have h8 := hR.2.1.2
  have hc : M.1 31 (pl M) 5 = nI (sN M) := by rw [hW.1.2.1, hR.2.1.1]
  refine Mt.go ok_CS_on [22] 60 rfl ?_
  refine xq d ok_CS_hasText (c_hasText E d M h) (by omega) ?_
  refine xq d ok_CS_isChannel (c_isChannel E d M h x) (by omega) ?_
  refine xc d ok_CS_isRefused (c_isRefused E d M (hT M) (aCh M x)) (by omega) ?_
  rintro r M1 ⟨rfl, rfl⟩
  cases q1 : hT M with
  | false =>
    refine And.intro (fun e => absurd (show nI 1 = nI 0 from e) (by decide)) (fun _ => ?_)
    have e : qOn M x = no 1 := by unfold qOn; rw [if_pos q1]
    rw [e]; exact And.intro rfl rfl
  | true =>
    cases q2 : aCh M x with
    | false =>
      refine And.intro (fun e => absurd e (by decide)) (fun _ => ?_)
      have e : qOn M x = no 2 := by unfold qOn; rw [if_neg (by rw [q1]; decide), if_pos q2]
      rw [e]; exact And.intro rfl rfl
    | true =>
      refine And.intro (fun _ => ?_) (fun e => absurd rfl e)
      have e : qOn M x = ye (S32 (fun s => decide (s < sN M) && (aOn M s && decide (oN M s = tN x)))) := by unfold qOn; rw [if_neg (by rw [q1]; decide), if_neg (by rw [q2]; decide)]
      rw [e]
      obtain ⟨c, hc1, hc2, rfl⟩ := aCh_at hR q2
      have hc10 := hR.1.2
      rw [tN_nI (by omega)]
      have key : ∀ t, t ≤ sN M → ∀ z, z = mkS (fun s => aOn M s && decide (oN M s = c)) t → Wp E (d + 2) m_CS_on 22 [some (vP 0 0), some (vI (nI c)), some (vI z), some (vI (nI t))] [] (sI M 0 0 11 (nI 0)) (CQ M (ye (S32 (fun s => decide (s < sN M) && (aOn M s && decide (oN M s = c)))))) := by
        refine loopUp (sN M) ?_ ?_
        · rintro z rfl
          refine go ok_CS_on [22] 60 ?_
          refine qLe hc rfl (by omega) (by omega) (fun _ => ?_) (fun q => absurd q (by omega))
          refine x_cans E _ _ (by omega) ?_
          refine And.intro ?_ (sI_sI _ _ _ _ _ _)
          rw [mkS_S32 (by omega)]; rfl
        · rintro t ht ih z rfl
          obtain ⟨o1, o2, o3⟩ := hR.2.2.2 t ht
          refine go ok_CS_on [22] 60 ?_
          refine qLe hc rfl (by omega) (by omega) (fun q => absurd q (by omega)) (fun _ => ?_)
          refine xq d ok_CS_has (c_has E d _ _ t (by omega)) (by omega) ?_
          have ea : bt ((sI M 0 0 11 (nI 0)).1 4 0 3) t = aOn M t := by
            show bt (M.1 4 0 3) t = _
            rw [hN.1]; rfl
          rw [ea]
          refine brF (fun q => ?_) (fun q => ?_)
          · refine nm_r (nI_add _ _) (ih _ ?_)
            rw [mkS, q]; rfl
          · refine ix t (show _ < 8 by omega) rfl ?_
            have eo : (sI M 0 0 11 (nI 0)).1 5 0 t = nI (oN M t) := by
              show M.1 5 0 t = _
              rw [(hN.2.2 t ht).1, o1]
            refine qNe eo rfl (by omega) (by omega) (fun z => ?_) (fun z => ?_)
            · refine nm_r (nI_add _ _) (ih _ ?_)
              rw [mkS, q, decide_eq_false z]; rfl
            · refine xq d ok_CS_bit (c_bit E d _ t) (by omega) ?_
              refine nm_r (nI_add _ _) (ih _ ?_)
              rw [mkS, q, decide_eq_true z]; rfl
      exact key 0 (Nat.zero_le _) _ rfl
theorem c_near (h : CI M) (x y : Int32) : Mt E (d + 3) m_CS_near [vP 0 0, vI x, vI y] M (CQ M (qNear M x y)) := by
  obtain ⟨⟨hR, -⟩, hB, hx, hW, hN, -⟩ := id h
  have h8 := hR.2.1.2
  refine Mt.go ok_CS_near [17, 23, 100] 60 rfl ?_
  have bad : qNear M x y = no 1 → Wp E (d + 3) m_CS_near 17 [some (vP 0 0), some (vI x), some (vI y)] [] M (CQ M (qNear M x y)) := by
    intro e
    refine go ok_CS_near [] 60 ?_
    refine x_cref E _ (nI 1) (by omega) ?_
    rw [e]; exact And.intro rfl rfl
  refine xq d ok_CS_isStation (c_isStation E d M h x) (by omega) ?_
  refine brF (fun q => ?_) (fun q => ?_)
  · exact bad (by unfold qNear; rw [if_pos q])
  · have e0 : qNear M x y = if in3 y 2 = false then no 1 else if y = nI 2 then ye (bif aOn M (tN x) then S32 (aDsb M (tN x) (oN M (tN x))) else nI 0) else if y = nI 0 then ye (S32 (fun t => decide (t < sN M) && (!decide (t = tN x) && aClash M (tN x) t))) else ye (S32 (fun t => decide (t < sN M) && (!decide (t = tN x) && aBrush M (tN x) t))) := by
      unfold qNear; rw [if_neg (by rw [q]; decide)]
    refine And.intro (fun z => ?_) (fun z => ?_)
    · refine bad ?_
      rw [e0, if_pos]
      unfold in3; rw [decide_eq_false (Int32.not_le.mpr z)]; rfl
    · refine And.intro (fun w => ?_) (fun w => ?_)
      · have hi : in3 y 2 = true := by unfold in3; rw [decide_eq_true (Int32.not_lt.mp z), decide_eq_true w]; rfl
        rw [if_neg (by rw [hi]; decide)] at e0
        obtain ⟨s, hs, rfl⟩ := aSt_at hR q
        obtain ⟨k, hk, rfl⟩ := in3_at (b := 2) (by omega) hi
        rw [tN_nI (by omega)] at e0
        obtain ⟨w1, w2, -⟩ := hW.2.1 s (by omega)
        refine go ok_CS_near [100] 60 ?_
        refine cNe (by omega) (by omega) (fun k0 => ?_) (fun k0 => ?_)
        · refine cNe (by omega) (by omega) (fun k1 => ?_) (fun k1 => ?_)
          · obtain rfl : k = 2 := by omega
            rw [if_pos rfl] at e0
            have fin : ∀ v, v = (bif aOn M s then S32 (aDsb M s (oN M s)) else nI 0) → Wp E (d + 3) m_CS_near 100 [some (vP 0 0), some (vI (nI s)), some (vI (nI 2))] [vI v, vP 0 0] M (CQ M (qNear M (nI s) (nI 2))) := by
              rintro v rfl
              refine go ok_CS_near [] 60 ?_
              refine x_cans E _ _ (by omega) ?_
              rw [e0]; exact And.intro rfl rfl
            refine xq d ok_CS_has (c_has E d _ _ s (by omega)) (by omega) ?_
            have ea : bt (M.1 4 0 3) s = aOn M s := by rw [hN.1]; rfl
            rw [ea]
            refine brF (fun a => ?_) (fun a => ?_)
            · exact fin _ (by rw [a]; rfl)
            · obtain ⟨o1, o2, o3⟩ := hR.2.2.2 s hs
              refine ix s (show _ < 8 by omega) rfl ?_
              have hx := c_disturbers E d M hR hB hW hN s (oN M s) hs (by omega)
              rw [← o1, ← (hN.2.2 s hs).1] at hx
              refine xq (d + 2) ok_Now_disturbers hx (by omega) ?_
              exact fin _ (by rw [a]; rfl)
          · subst k1
            rw [if_neg (by decide), if_neg (by decide)] at e0
            refine ix s (show _ < 8 by omega) rfl ?_
            refine x_cans E _ _ (by omega) ?_
            rw [e0]
            refine And.intro ?_ rfl
            show some (vI (M.1 47 (pl M) s)) = _
            rw [w2]
            have : S32 (brS M s) = S32 (fun t => decide (t < sN M) && (!decide (t = s) && aBrush M s t)) := S32_cg fun i _ => by unfold brS; rw [decide_eq_true hs]; rfl
            rw [this]; rfl
        · subst k0
          rw [if_neg (by decide), if_pos rfl] at e0
          refine ix s (show _ < 8 by omega) rfl ?_
          refine x_cans E _ _ (by omega) ?_
          rw [e0]
          refine And.intro ?_ rfl
          show some (vI (M.1 46 (pl M) s)) = _
          rw [w1]
          have : S32 (clS M s) = S32 (fun t => decide (t < sN M) && (!decide (t = s) && aClash M s t)) := S32_cg fun i _ => by unfold clS; rw [decide_eq_true hs]; rfl
          rw [this]; rfl
      · refine bad ?_
        rw [e0, if_pos]
        unfold in3; rw [decide_eq_false w, Bool.and_false]
end C2
