/-! the class: the acts -/
theorem ac_no {M N : Me} {t s : Nat} {v : Int32} (hs : t = s) (h : s ≠ 0) : AC M t v N (some (vI (-(nI 1)))) (sI M 0 0 11 (nI s)) := by
  subst hs; exact Or.inl ⟨h, rfl, rfl⟩
theorem ac_no2 {M N : Me} {t s : Nat} {v x : Int32} (hs : t = s) (h : s ≠ 0) : AC M t v N (some (vI (-(nI 1)))) (sI (sI M 0 0 11 x) 0 0 11 (nI s)) := by
  subst hs; exact Or.inl ⟨h, rfl, sI_sI _ _ _ _ _ _⟩
theorem ac_ye {M N : Me} {t : Nat} {v u : Int32} (hs : t = 0) (hv : u = v) : AC M t v N (some (vI u)) (sI N 0 0 11 (nI 0)) := by
  subst hs; subst hv; exact Or.inr ⟨rfl, rfl, rfl⟩
abbrev MT0 (M : Me) : Me := sI M 0 0 11 (nI 0)
theorem clR_at {M : Me} {i r k : Nat} (h : i ≠ 8) (h2 : i ≠ 10) : (clR M).1 i r k = M.1 i r k := by
  unfold clR
  rw [sI_at, if_neg (fun z => h z.1), sI_at, if_neg (fun z => h z.1), setR_out (fun z => h2 z.1)]
section A2
variable (E : EV) (d : Nat) (M : Me)
theorem c_move (hC : CI M) (hH : RH M) (x y z : Int32) (hz : z = nI 0 ∨ z = nI 1) : Mt E (d + 5) m_CS_move [vP 0 0, vI x, vI y, vI z] M (AC M (tMove M x y z) (M.1 65 0 (tN x)) (sI (clR (MT0 M)) 5 0 (tN x) y)) := by
  obtain ⟨hX, hB, hx, hW, hN, hA⟩ := id hC
  have h8 := hX.1.2.1.2
  have hC1 : CI (MT0 M) := hC
  have hH1 : RH (MT0 M) := hH
  refine Mt.go ok_CS_move [45] 60 rfl ?_
  refine xq d ok_CS_isStation (c_isStation E d M hC x) (by omega) ?_
  refine xq d ok_CS_isChannel (c_isChannel E d M hC y) (by omega) ?_
  refine xc d ok_CS_isRefused (c_isRefused E d M (aSt M x) (aCh M y)) (by omega) ?_
  rintro r M1 ⟨rfl, rfl⟩
  cases q1 : aSt M x with
  | false =>
    refine And.intro (fun e => absurd (show nI 1 = nI 0 from e) (by decide)) (fun _ => ?_)
    exact ac_no (by unfold tMove; rw [q1]; rfl) (show (1 : Nat) ≠ 0 by omega)
  | true =>
    cases q2 : aCh M y with
    | false =>
      refine And.intro (fun e => absurd (show nI 1 = nI 0 from e) (by decide)) (fun _ => ?_)
      exact ac_no (by unfold tMove; rw [q1, q2]; rfl) (show (2 : Nat) ≠ 0 by omega)
    | true =>
      refine And.intro (fun _ => ?_) (fun e => absurd (show nI 0 = nI 0 from rfl) e)
      obtain ⟨s, hs, rfl⟩ := aSt_at hX.1 q1
      obtain ⟨c, hc1, hc2, rfl⟩ := aCh_at hX.1 q2
      have hc10 := hX.1.1.2
      have es : tN (nI s) = s := tN_nI (by omega)
      have ec : tN (nI c) = c := tN_nI (by omega)
      have f45 : tMove M (nI s) (nI c) z = 0 → Wp E (d + 5) m_CS_move 45 [some (vP 0 0), some (vI (nI s)), some (vI (nI c)), some (vI z), none] [] (MT0 M) (AC M (tMove M (nI s) (nI c) z) (M.1 65 0 (tN (nI s))) (sI (clR (MT0 M)) 5 0 (tN (nI s)) (nI c))) := by
        intro ht
        rw [es]
        refine go ok_CS_move [] 60 ?_
        refine xc (d + 1) ok_History_remember (c_remember E d (MT0 M) hH1) (by omega) ?_
        rintro r M2 ⟨rfl, rfl⟩
        refine ix s (show _ < 8 by omega) rfl ?_
        refine ix s (show _ < 8 by omega) rfl ?_
        refine x_cans E _ _ (by omega) ?_
        refine ac_ye ht ?_
        rw [clR_at (by omega) (by omega)]
        exact (hN.2.2 s hs).1
      rcases hz with rfl | rfl
      · refine And.intro (fun e => absurd rfl e) (fun _ => ?_)
        refine xq (d + 3) ok_Now_isFree (c_isFree E d (MT0 M) hX.1 hB hW hN s c hs hc1 (by omega)) (by omega) ?_
        refine brN (fun qf => ?_) (fun qf => ?_)
        · have qf : aMay M s c = true := qf
          exact f45 (by unfold tMove; rw [q1, q2, es, ec, qf]; rfl)
        · have qf : aMay M s c = false := qf
          refine x_cref E _ (nI 5) (by omega) ?_
          exact ac_no2 (by unfold tMove; rw [q1, q2, es, ec, qf]; rfl) (show (5 : Nat) ≠ 0 by omega)
      · refine And.intro (fun _ => ?_) (fun e => absurd e (by decide))
        exact f45 (by unfold tMove; rw [q1, q2, decide_eq_false (show ¬ nI 1 = nI 0 by decide)]; rfl)
theorem c_buy (hC : CI M) (hH : RH M) (x y : Int32) : Mt E (d + 2) m_CS_buy [vP 0 0, vI x, vI y] M (AC M (tBuy M x y) (M.1 65 0 25 + y) (sI (sI (clR (MT0 M)) 4 0 3 (M.1 65 0 24 &&& (b1 (tN x) ^^^ -(nI 1)))) 4 0 4 (M.1 65 0 25 + y))) := by
  obtain ⟨hX, hB, hx, hW, hN, hA⟩ := id hC
  have h8 := hX.1.2.1.2
  have hH1 : RH (MT0 M) := hH
  refine Mt.go ok_CS_buy [] 60 rfl ?_
  refine xq d ok_CS_isStation (c_isStation E d M hC x) (by omega) ?_
  refine xq d ok_CS_isPrice (c_isPrice E d M y) (by omega) ?_
  refine xc d ok_CS_isRefused (c_isRefused E d M (aSt M x) (in3 y 999)) (by omega) ?_
  rintro r M1 ⟨rfl, rfl⟩
  cases q1 : aSt M x with
  | false =>
    refine And.intro (fun e => absurd (show nI 1 = nI 0 from e) (by decide)) (fun _ => ?_)
    exact ac_no (by unfold tBuy; rw [q1]; rfl) (show (1 : Nat) ≠ 0 by omega)
  | true =>
    cases q2 : in3 y 999 with
    | false =>
      refine And.intro (fun e => absurd (show nI 1 = nI 0 from e) (by decide)) (fun _ => ?_)
      exact ac_no (by unfold tBuy; rw [q1, q2]; rfl) (show (2 : Nat) ≠ 0 by omega)
    | true =>
      refine And.intro (fun _ => ?_) (fun e => absurd (show nI 0 = nI 0 from rfl) e)
      obtain ⟨s, hs, rfl⟩ := aSt_at hX.1 q1
      have es : tN (nI s) = s := tN_nI (by omega)
      have ea : bt (M.1 4 0 3) s = aOn M s := by rw [hN.1]; rfl
      have hxx := c_has E d (MT0 M) (M.1 4 0 3) s (by omega)
      rw [ea] at hxx
      refine xq d ok_CS_has hxx (by omega) ?_
      refine brN (fun q => ?_) (fun q => ?_)
      · refine xc (d + 1) ok_History_remember (c_remember E d (MT0 M) hH1) (by omega) ?_
        rintro r M2 ⟨rfl, rfl⟩
        refine xq d ok_CS_bit (c_bit E d _ s) (by omega) ?_
        have e3 : (clR (MT0 M)).1 4 0 3 = M.1 65 0 24 := by rw [clR_at (by omega) (by omega)]; exact hN.1
        have e4 : (sI (clR (MT0 M)) 4 0 3 ((clR (MT0 M)).1 4 0 3 &&& (b1 s ^^^ -(nI 1)))).1 4 0 4 = M.1 65 0 25 := by rw [sI_at, if_neg (by omega), clR_at (by omega) (by omega)]; exact hN.2.1
        refine x_cans E _ _ (by omega) ?_
        rw [es, ← e4, ← e3]
        exact ac_ye (by unfold tBuy; rw [q1, q2, es, q]; rfl) rfl
      · refine x_cref E _ (nI 5) (by omega) ?_
        exact ac_no2 (by unfold tBuy; rw [q1, q2, es, q]; rfl) (show (5 : Nat) ≠ 0 by omega)
theorem c_air (hC : CI M) (hH : RH M) (x : Int32) : Mt E (d + 5) m_CS_air [vP 0 0, vI x] M (AC M (tAir M x) (aBits (M.1 65 0 24 ||| b1 (tN x)) 16) (sI (clR M) 4 0 3 (M.1 65 0 24 ||| b1 (tN x)))) := by
  obtain ⟨hX, hB, hx, hW, hN, hA⟩ := id hC
  have h8 := hX.1.2.1.2
  refine Mt.go ok_CS_air [52, 58] 60 rfl ?_
  refine xq d ok_CS_isStation (c_isStation E d M hC x) (by omega) ?_
  refine brN (fun q1 => ?_) (fun q1 => ?_)
  · obtain ⟨s, hs, rfl⟩ := aSt_at hX.1 q1
    have es : tN (nI s) = s := tN_nI (by omega)
    obtain ⟨o1, o2, o3⟩ := hX.1.2.2.2 s hs
    have bad : (aOn M s || !aMay M s (oN M s)) = true → Wp E (d + 5) m_CS_air 52 [some (vP 0 0), some (vI (nI s))] [] M (AC M (tAir M (nI s)) (aBits (M.1 65 0 24 ||| b1 (tN (nI s))) 16) (sI (clR M) 4 0 3 (M.1 65 0 24 ||| b1 (tN (nI s))))) := by
      intro q
      refine go ok_CS_air [] 60 ?_
      refine x_cref E _ (nI 5) (by omega) ?_
      exact ac_no (by unfold tAir; rw [q1, es, q]; rfl) (show (5 : Nat) ≠ 0 by omega)
    refine xq d ok_CS_has (c_has E d M _ s (by omega)) (by omega) ?_
    have ea : bt (M.1 4 0 3) s = aOn M s := by rw [hN.1]; rfl
    rw [ea]
    refine brN (fun q => ?_) (fun q => ?_)
    · exact bad (by rw [q]; rfl)
    · refine ix s (show _ < 8 by omega) rfl ?_
      have hx := c_isFree E d M hX.1 hB hW hN s (oN M s) hs o2 (by omega)
      rw [← o1, ← (hN.2.2 s hs).1] at hx
      refine xq (d + 3) ok_Now_isFree hx (by omega) ?_
      refine brN (fun qf => ?_) (fun qf => ?_)
      · refine go ok_CS_air [] 60 ?_
        refine xc (d + 1) ok_History_remember (c_remember E d M hH) (by omega) ?_
        rintro r M2 ⟨rfl, rfl⟩
        refine xq d ok_CS_bit (c_bit E d _ s) (by omega) ?_
        have e3 : (clR M).1 4 0 3 = M.1 65 0 24 := by rw [clR_at (by omega) (by omega)]; exact hN.1
        have hsm : isSm (M.1 65 0 24 ||| b1 s) := isSm_of fun i i1 i2 => by
          rw [b_or, b1_at (by omega) i2, decide_eq_false (by omega), Bool.or_false]
          cases hb : bt (M.1 65 0 24) i with
          | false => rfl
          | true => have := air_lt hB hb; omega
        have hx := c_bitCountS E d (sI (clR M) 4 0 3 ((clR M).1 4 0 3 ||| b1 s)) hsm
        have e5 : (sI (clR M) 4 0 3 ((clR M).1 4 0 3 ||| b1 s)).1 4 0 3 = M.1 65 0 24 ||| b1 s := by rw [sI_at, if_pos ⟨rfl, rfl, rfl⟩, e3]
        rw [← e5] at hx
        refine xq d ok_Integer_bitCount hx (by omega) ?_
        refine x_cans E _ _ (by omega) ?_
        rw [es, e5, ← e3]
        exact ac_ye (by unfold tAir; rw [q1, es, q, qf]; rfl) rfl
      · exact bad (by rw [qf, Bool.or_comm]; rfl)
  · refine x_cref E _ (nI 1) (by omega) ?_
    exact ac_no (by unfold tAir; rw [q1]; rfl) (show (1 : Nat) ≠ 0 by omega)
theorem c_value (hC : CI M) (hH : RH M) (x y : Int32) : Mt E (d + 2) m_CS_value [vP 0 0, vI x, vI y] M (AC M (tVal M x y) (M.1 65 0 (8 + tN x)) (sI (clR (MT0 M)) 6 0 (tN x) y)) := by
  obtain ⟨hX, hB, hx, hW, hN, hA⟩ := id hC
  have h8 := hX.1.2.1.2
  have hH1 : RH (MT0 M) := hH
  refine Mt.go ok_CS_value [] 60 rfl ?_
  refine xq d ok_CS_isStation (c_isStation E d M hC x) (by omega) ?_
  refine xq d ok_CS_isPrice (c_isPrice E d M y) (by omega) ?_
  refine xc d ok_CS_isRefused (c_isRefused E d M (aSt M x) (in3 y 999)) (by omega) ?_
  rintro r M1 ⟨rfl, rfl⟩
  cases q1 : aSt M x with
  | false =>
    refine And.intro (fun e => absurd (show nI 1 = nI 0 from e) (by decide)) (fun _ => ?_)
    exact ac_no (by unfold tVal; rw [q1]; rfl) (show (1 : Nat) ≠ 0 by omega)
  | true =>
    cases q2 : in3 y 999 with
    | false =>
      refine And.intro (fun e => absurd (show nI 1 = nI 0 from e) (by decide)) (fun _ => ?_)
      exact ac_no (by unfold tVal; rw [q1, q2]; rfl) (show (2 : Nat) ≠ 0 by omega)
    | true =>
      refine And.intro (fun _ => ?_) (fun e => absurd (show nI 0 = nI 0 from rfl) e)
      obtain ⟨s, hs, rfl⟩ := aSt_at hX.1 q1
      have es : tN (nI s) = s := tN_nI (by omega)
      refine xc (d + 1) ok_History_remember (c_remember E d (MT0 M) hH1) (by omega) ?_
      rintro r M2 ⟨rfl, rfl⟩
      refine ix s (show _ < 8 by omega) rfl ?_
      refine ix s (show _ < 8 by omega) rfl ?_
      refine x_cans E _ _ (by omega) ?_
      rw [es]
      refine ac_ye (by unfold tVal; rw [q1, q2]; rfl) ?_
      rw [clR_at (by omega) (by omega)]
      exact (hN.2.2 s hs).2.1
theorem c_ban (hC : CI M) (hH : RH M) (x y : Int32) : Mt E (d + 2) m_CS_ban [vP 0 0, vI x, vI y] M (AC M (tBan M x y) (M.1 65 0 (16 + tN x) ^^^ b1 (tN y - 1)) (sI (clR (MT0 M)) 7 0 (tN x) (M.1 65 0 (16 + tN x) ^^^ b1 (tN y - 1)))) := by
  obtain ⟨hX, hB, hx, hW, hN, hA⟩ := id hC
  have h8 := hX.1.2.1.2
  have hH1 : RH (MT0 M) := hH
  refine Mt.go ok_CS_ban [] 60 rfl ?_
  refine xq d ok_CS_isStation (c_isStation E d M hC x) (by omega) ?_
  refine xq d ok_CS_isChannel (c_isChannel E d M hC y) (by omega) ?_
  refine xc d ok_CS_isRefused (c_isRefused E d M (aSt M x) (aCh M y)) (by omega) ?_
  rintro r M1 ⟨rfl, rfl⟩
  cases q1 : aSt M x with
  | false =>
    refine And.intro (fun e => absurd (show nI 1 = nI 0 from e) (by decide)) (fun _ => ?_)
    exact ac_no (by unfold tBan; rw [q1]; rfl) (show (1 : Nat) ≠ 0 by omega)
  | true =>
    cases q2 : aCh M y with
    | false =>
      refine And.intro (fun e => absurd (show nI 1 = nI 0 from e) (by decide)) (fun _ => ?_)
      exact ac_no (by unfold tBan; rw [q1, q2]; rfl) (show (2 : Nat) ≠ 0 by omega)
    | true =>
      refine And.intro (fun _ => ?_) (fun e => absurd (show nI 0 = nI 0 from rfl) e)
      obtain ⟨s, hs, rfl⟩ := aSt_at hX.1 q1
      obtain ⟨c, hc1, hc2, rfl⟩ := aCh_at hX.1 q2
      have hc10 := hX.1.1.2
      have es : tN (nI s) = s := tN_nI (by omega)
      have ec : tN (nI c) = c := tN_nI (by omega)
      refine xc (d + 1) ok_History_remember (c_remember E d (MT0 M) hH1) (by omega) ?_
      rintro r M2 ⟨rfl, rfl⟩
      have e7 : (clR (MT0 M)).1 7 0 s = M.1 65 0 (16 + s) := by rw [clR_at (by omega) (by omega)]; exact (hN.2.2 s hs).2.2
      refine ix s (show _ < 8 by omega) rfl ?_
      refine xq d ok_CS_channelBit (c_channelBit E d _ c hc1) (by omega) ?_
      refine ix s (show _ < 8 by omega) rfl ?_
      refine ix s (show _ < 8 by omega) rfl ?_
      refine x_cans E _ _ (by omega) ?_
      rw [es, ec, ← e7]
      refine ac_ye (by unfold tBan; rw [q1, q2]; rfl) ?_
      rw [sI_at, if_pos ⟨rfl, rfl, rfl⟩]
theorem c_undo (hC : CI M) (hH : RH M) (hA2 : RA M) (hz0 : hz M = acN M) : Mt E (d + 2) m_CS_undo [vP 0 0] M (fun r M' => (tUndo M ≠ 0 ∧ r = some (vI (-(nI 1))) ∧ M' = sI M 0 0 11 (nI (tUndo M))) ∨ (tUndo M = 0 ∧ r = some (vI (nI (acN M - 1))) ∧ ∃ N, RdP (sI (sI M 8 0 1 (nI (hxB M))) 8 0 2 (nI (hz M - 1))) N 10 (hxB M) ∧ M' = sI N 0 0 11 (nI 0))) := by
  obtain ⟨hX, hB, hx, hW, hN, hA⟩ := id hC
  refine Mt.go ok_CS_undo [] 60 rfl ?_
  refine xq d ok_CS_hasText (c_hasText E d M hC) (by omega) ?_
  refine brN (fun q1 => ?_) (fun q1 => ?_)
  · have hac := hA2.2
    refine qNe hH.2.1 rfl (by omega) (by omega) (fun q => ?_) (fun q => ?_)
    · refine xc (d + 1) ok_History_takeBack (c_takeBack E d M hH (by omega)) (by omega) ?_
      rintro r N ⟨rfl, hR⟩
      refine x_cans E _ _ (by omega) ?_
      refine Or.inr ⟨by unfold tUndo; rw [q1, decide_eq_false (by omega)]; rfl, ?_, N, hR, rfl⟩
      have : N.1 8 0 2 = nI (hz M - 1) := by
        rw [hR.1 8 0 2 (by omega) (by omega), sI_at, if_pos ⟨rfl, rfl, rfl⟩]
      show some (vI (N.1 8 0 2)) = _
      rw [this, hz0]
    · refine x_cref E _ (nI 5) (by omega) ?_
      have ht : tUndo M = 5 := by unfold tUndo; rw [q1, decide_eq_true (by omega)]; rfl
      refine Or.inl ⟨by omega, rfl, ?_⟩
      rw [ht]
  · refine x_cref E _ (nI 1) (by omega) ?_
    have ht : tUndo M = 1 := by unfold tUndo; rw [q1]; rfl
    refine Or.inl ⟨by omega, rfl, ?_⟩
    rw [ht]
theorem c_keep (hC : CI M) (x : Int32) : Mt E (d + 1) m_CS_keep [vP 0 0, vI x] M (fun r M' => (tKeep M x ≠ 0 ∧ r = some (vI (nI 0)) ∧ M' = sI M 0 0 11 (nI 1)) ∨ (tKeep M x = 0 ∧ r = some (vI (nI 1)) ∧ M' = sI (sI (setR M 12 (tN x) 0 26 (snp M)) 13 0 (tN x) (nI 1)) 0 0 11 (nI 0))) := by
  refine Mt.go ok_CS_keep [16] 60 rfl ?_
  have bad : tKeep M x = 1 → Wp E (d + 1) m_CS_keep 16 [some (vP 0 0), some (vI x)] [] M (fun r M' => (tKeep M x ≠ 0 ∧ r = some (vI (nI 0)) ∧ M' = sI M 0 0 11 (nI 1)) ∨ (tKeep M x = 0 ∧ r = some (vI (nI 1)) ∧ M' = sI (sI (setR M 12 (tN x) 0 26 (snp M)) 13 0 (tN x) (nI 1)) 0 0 11 (nI 0))) := by
    intro ht
    refine go ok_CS_keep [] 60 ?_
    exact And.intro (Or.inl rfl) (Or.inl ⟨by omega, rfl, rfl⟩)
  refine xq d ok_CS_hasText (c_hasText E d M hC) (by omega) ?_
  refine brF (fun q => ?_) (fun q => ?_)
  · exact bad (by unfold tKeep; rw [q]; rfl)
  · refine And.intro (fun w => ?_) (fun w => ?_)
    · exact bad (by unfold tKeep; rw [in3_no w, Bool.and_false]; rfl)
    · obtain ⟨k, hk, rfl⟩ := nneg (Int32.not_lt.mp w)
      refine cLt hk (by omega) (fun u => ?_) (fun u => ?_)
      · have ek : tN (nI k) = k := tN_nI hk
        refine ix k (show _ < 2 by omega) rfl ?_
        refine xc d ok_Now_writeTo (c_writeTo E d M 12 k (Or.inr rfl)) (by omega) ?_
        rintro r N ⟨rfl, rfl⟩
        refine ix k (show _ < 2 by omega) rfl ?_
        refine And.intro (Or.inr rfl) ?_
        rw [ek]
        exact And.intro (Or.inr rfl) (Or.inr ⟨by unfold tKeep; rw [q, in3_ye hk (by omega) (by omega)]; rfl, rfl, rfl⟩)
      · exact bad (by unfold tKeep; rw [in3_no2 hk (by omega) (by omega), Bool.and_false]; rfl)
theorem c_back (hC : CI M) (hI : ∀ i, i < 2 → M.1 13 0 i = bI (kp M i)) (x : Int32) : Mt E (d + 1) m_CS_back [vP 0 0, vI x] M (fun r M' => (tBack M x ≠ 0 ∧ r = some (vI (nI 0)) ∧ M' = sI M 0 0 11 (nI 1)) ∨ (tBack M x = 0 ∧ r = some (vI (nI 1)) ∧ ∃ N, RdP M N 12 (tN x) ∧ M' = sI (sI N 8 0 2 (nI 0)) 0 0 11 (nI 0))) := by
  refine Mt.go ok_CS_back [25] 60 rfl ?_
  have bad : tBack M x = 1 → Wp E (d + 1) m_CS_back 25 [some (vP 0 0), some (vI x)] [] M (fun r M' => (tBack M x ≠ 0 ∧ r = some (vI (nI 0)) ∧ M' = sI M 0 0 11 (nI 1)) ∨ (tBack M x = 0 ∧ r = some (vI (nI 1)) ∧ ∃ N, RdP M N 12 (tN x) ∧ M' = sI (sI N 8 0 2 (nI 0)) 0 0 11 (nI 0))) := by
    intro ht
    refine go ok_CS_back [] 60 ?_
    exact And.intro (Or.inl rfl) (Or.inl ⟨by omega, rfl, rfl⟩)
  refine xq d ok_CS_hasText (c_hasText E d M hC) (by omega) ?_
  refine brF (fun q => ?_) (fun q => ?_)
  · exact bad (by unfold tBack; rw [q]; rfl)
  · refine And.intro (fun w => ?_) (fun w => ?_)
    · exact bad (by unfold tBack; rw [in3_no w, Bool.and_false]; rfl)
    · obtain ⟨k, hk, rfl⟩ := nneg (Int32.not_lt.mp w)
      refine cLe (by omega) hk (fun u => ?_) (fun u => ?_)
      · exact bad (by unfold tBack; rw [in3_no2 hk (by omega) (by omega), Bool.and_false]; rfl)
      · have ek : tN (nI k) = k := tN_nI hk
        refine ix k (show _ < 2 by omega) rfl ?_
        refine qN (hI k u) (fun qk => ?_) (fun qk => ?_)
        · refine ix k (show _ < 2 by omega) rfl ?_
          refine xc d ok_Now_readFrom (c_readFrom E d M 12 k (Or.inr rfl)) (by omega) ?_
          rintro r N ⟨rfl, hR⟩
          refine xc d ok_History_empty (Q' := fun r M' => r = none ∧ M' = sI N 8 0 2 (nI 0)) (Mt.go ok_History_empty [] 30 rfl (And.intro rfl rfl)) (by omega) ?_
          rintro r N2 ⟨rfl, rfl⟩
          rw [ek]
          exact And.intro (Or.inr rfl) (Or.inr ⟨by unfold tBack; rw [q, in3_ye hk (by omega) (by omega), ek, qk]; rfl, rfl, N, hR, rfl⟩)
        · exact bad (by unfold tBack; rw [ek, qk, Bool.and_false]; rfl)
end A2
