/-! the reference: clock, pay, clear -/
def aPr (f : Int32) (g : Nat → Int32) : Nat → Int32
  | 0 => nI 0
  | n + 1 => aPr f g n + bif bt f n then g n else nI 0
theorem aPr_cg {f : Int32} {g g' : Nat → Int32} : ∀ (n : Nat), (∀ t, t < n → g t = g' t) → aPr f g n = aPr f g' n
  | 0, _ => rfl
  | n + 1, h => by rw [aPr, aPr, aPr_cg n (fun t ht => h t (by omega)), h n (by omega)]
def aCk (M : Me) (x y z : Int32) : Bool := aCh M x && (in3 y 999 && (decide (nI 1 ≤ z) && decide (z ≤ nI 999)))
theorem aCk_at {M : Me} (hR : RW M) {x y z : Int32} (h : aCk M x y z = true) : ∃ c p s, (1 ≤ c ∧ c ≤ cN M) ∧ p ≤ 999 ∧ (1 ≤ s ∧ s ≤ 999) ∧ x = nI c ∧ y = nI p ∧ z = nI s := by
  simp only [aCk, Bool.and_eq_true, decide_eq_true_eq] at h
  obtain ⟨h1, h2, h3, h4⟩ := h
  obtain ⟨c, c1, c2, rfl⟩ := aCh_at hR h1
  obtain ⟨p, p1, rfl⟩ := in3_at (by omega) h2
  obtain ⟨k, hk, rfl⟩ := nneg (Int32.le_trans (by decide) h3)
  exact ⟨c, p, k, ⟨c1, c2⟩, p1, ⟨(nI_leI (by omega) hk).mp h3, (nI_leI hk (by omega)).mp h4⟩, rfl, rfl, rfl⟩
theorem aClk_ag {M M' : Me} (h : AgR M M') (m p st : Nat) : aClk M' m p st = aClk M m p st := by
  unfold aClk
  have e : (fun x => aFit M' x m) = (fun x => aFit M x m) := funext fun x => aFit_ag h x m
  rw [agS h, ag65 h, e]
def cPr (M : Me) (c : Nat × C4) : Int32 := aPr c.2.2.2.1 (clP c) (sN M)
def qClock (M : Me) (x y z w : Int32) : AT := if (hT M && in3 w 4) = false then no 1 else if aCk M x y z = false then no 2 else
  if w = nI 0 then ye (nI (aClk M (tN x) (tN y) (tN z)).1) else if w = nI 1 then ye (aClk M (tN x) (tN y) (tN z)).2.2.1 else if w = nI 2 then ye (aClk M (tN x) (tN y) (tN z)).2.2.2.1 else if w = nI 3 then ye (aClk M (tN x) (tN y) (tN z)).2.1 else ye (cPr M (aClk M (tN x) (tN y) (tN z)))
def qPay (M : Me) (x y z w : Int32) : AT := if aSt M w = false then no 1 else if aCk M x y z = false then no 2 else ye (clP (aClk M (tN x) (tN y) (tN z)) (tN w))
def tClear (M : Me) (x y z : Int32) : Nat := bif !hT M then 1 else bif !aCk M x y z then 2 else 0
def vClear (M : Me) (x y z : Int32) : Int32 := M.1 65 0 25 + cPr M (aClk M (tN x) (tN y) (tN z))
def nClear (M : Me) (x y z : Int32) : Me := sI (sI (remM (M0 M)) 65 0 24 (aClk M (tN x) (tN y) (tN z)).2.2.1) 65 0 25 (vClear M x y z)
/-- behind an act with a search -/
abbrev RTs (M : Me) (t : Nat) (v : Int32) (N : Me) : Option AV → Me → Prop := fun r M' => (t ≠ 0 ∧ RQs M (no t) r M') ∨ (t = 0 ∧ r = some (vI v) ∧ AgR N M' ∧ RRe M' ∧ M'.1 60 0 0 = nI 0 ∧ M'.1 60 0 1 = nI 0 ∧ M'.1 60 0 2 = -(nI 1))
theorem setR_ag {M N : Me} (h : AgR M N) {i r lo n : Nat} {f g : Nat → Int32} (hfg : ∀ k, k < n → f k = g k) : AgR (setR M i r lo n f) (setR N i r lo n g) := by
  refine ⟨fun a b c e => ?_, h.2⟩
  by_cases q : a = i ∧ b = r ∧ lo ≤ c ∧ c < lo + n
  · obtain ⟨rfl, rfl, q1, q2⟩ := q
    obtain ⟨j, rfl⟩ : ∃ j, c = lo + j := ⟨c - lo, by omega⟩
    rw [setR_at (by omega), setR_at (by omega), hfg j (by omega)]
  · rw [setR_out q, setR_out q]; exact h.1 a b c e
theorem sI_ag {M N : Me} (h : AgR M N) {i r k : Nat} {x y : Int32} (e : x = y) : AgR (sI M i r k x) (sI N i r k y) := by
  subst e
  refine ⟨fun a b c e => ?_, h.2⟩
  show up3 N.1 i r k x a b c = up3 M.1 i r k x a b c
  by_cases q : a = i ∧ b = r ∧ c = k
  · obtain ⟨rfl, rfl, rfl⟩ := q
    rw [up3_same, up3_same]
  · rw [up3_ne q, up3_ne q]; exact h.1 a b c e
theorem ag_rem {M N : Me} (h : AgR M N) : AgR (remM M) (remM N) := by
  have ea : acN N = acN M := by unfold acN; rw [h.1 60 0 29 rfl]
  have e5 : N.1 65 = M.1 65 := ag65 h
  unfold remM
  rw [ea, e5]
  cases decide (acN M = 10)
  · rw [cond_false, cond_false]
    exact sI_ag (setR_ag h (fun _ _ => rfl)) rfl
  · rw [cond_true, cond_true]
    refine sI_ag (setR_ag ?_ (fun _ _ => rfl)) rfl
    unfold rem9
    refine setR_ag (sI_ag h rfl) (fun k _ => ?_)
    exact (h.1 67 0 (k + 26) rfl).symm
section R14
variable (E : EV) (d : Nat) (M : Me)
theorem r_isClock (hR : RW M) (x y z : Int32) : Mt E (d + 2) m_Mo_isClock [vP 60 0, vI x, vI y, vI z] M (RP (vI (bI (aCk M x y z))) M) := by
  refine Mt.go ok_Mo_isClock [] 60 rfl ?_
  refine xq (d + 1) ok_Mo_isChannel (r_isChannel E d M hR x) (by omega) ?_
  refine brF (fun h1 => ?_) (fun h1 => ?_)
  · refine And.intro (Or.inl rfl) (And.intro ?_ rfl)
    unfold aCk; rw [h1]; rfl
  · refine xq d ok_Mo_in (r_in E d _ _ _ _) (by omega) ?_
    refine brF (fun h2 => ?_) (fun h2 => ?_)
    · have h2 : in3 y 999 = false := h2
      refine And.intro (Or.inl rfl) (And.intro ?_ rfl)
      unfold aCk; rw [h1, h2]; rfl
    · have h2 : in3 y 999 = true := h2
      refine xq d ok_Mo_in (r_in E d _ _ _ _) (by omega) ?_
      refine brF (fun h3 => ?_) (fun h3 => ?_)
      · refine And.intro (Or.inl rfl) (And.intro ?_ rfl)
        unfold aCk; rw [h1, h2, h3]; rfl
      · refine And.intro (Or.inr rfl) (And.intro ?_ rfl)
        unfold aCk; rw [h1, h2, h3]; rfl
theorem r_prices (n : Nat) (hn : M.1 60 0 18 = nI n) (hn' : n ≤ 8) : Mt E (d + 1) m_Mo_prices [vP 60 0] M (RP (vI (aPr (M.1 60 0 37) (M.1 72 0) n)) M) := by
  refine Mt.go ok_Mo_prices [4] 60 rfl ?_
  have key : ∀ t, t ≤ n → ∀ z, z = aPr (M.1 60 0 37) (M.1 72 0) t → Wp E (d + 1) m_Mo_prices 4 [some (vP 60 0), some (vI z), some (vI (nI t))] [] M (RP (vI (aPr (M.1 60 0 37) (M.1 72 0) n)) M) := by
    refine loopUp n ?_ ?_
    · intro z hz
      refine go ok_Mo_prices [4] 60 ?_
      exact qLe hn rfl (by omega) (by omega) (fun _ => And.intro (by rw [hz]) rfl) (fun c => absurd c (by omega))
    · intro t hlt ih z hz
      refine go ok_Mo_prices [4] 60 ?_
      refine qLe hn rfl (by omega) (by omega) (fun h => absurd h (by omega)) (fun _ => ?_)
      refine xq d ok_Mo_has (r_has E d M _ t (by omega)) (by omega) ?_
      refine brF (fun h => ?_) (fun h => ?_)
      · refine nm_r (nI_add _ _) (ih _ ?_)
        rw [hz, aPr, h]; rfl
      · refine ix t (show _ < 8 by omega) rfl ?_
        refine nm_r (nI_add _ _) (ih _ ?_)
        rw [hz, aPr, h]; rfl
  exact key 0 (Nat.zero_le _) _ rfl
theorem r_clock (hX : RX M) (hr : RRe M) (x y z w : Int32) : Mt E (d + 16) m_Mo_clock [vP 60 0, vI x, vI y, vI z, vI w] M (RQs M (qClock M x y z w)) := by
  have hX0 : RX (M0 M) := hX
  have hn := hX.1.2.1
  refine Mt.go ok_Mo_clock [] 60 rfl ?_
  refine qF hX.2 (fun h => ?_) (fun h => ?_)
  · refine x_ref E _ _ (by omega) (end_no 1 (agM0 M) hr rfl ?_)
    unfold qClock; rw [if_pos (by rw [h]; rfl)]
  · refine xq d ok_Mo_in (r_in E d _ _ _ _) (by omega) ?_
    refine brN (fun h1 => ?_) (fun h1 => ?_)
    · have h1 : in3 w 4 = true := h1
      refine xq (d + 2) ok_Mo_isClock (r_isClock E d _ hX0.1 x y z) (by omega) ?_
      refine brN (fun h2 => ?_) (fun h2 => ?_)
      · have h2 : aCk M x y z = true := h2
        obtain ⟨c, p, s, hc, hp, hs, rfl, rfl, rfl⟩ := aCk_at hX.1 h2
        have hc3 := hX.1.1.2
        obtain ⟨k, hk, rfl⟩ := in3_at (by omega) h1
        generalize hC : aClk M c p s = C
        have e0 : qClock M (nI c) (nI p) (nI s) (nI k) = if nI k = nI 0 then ye (nI C.1) else if nI k = nI 1 then ye C.2.2.1 else if nI k = nI 2 then ye C.2.2.2.1 else if nI k = nI 3 then ye C.2.1 else ye (cPr M C) := by
          unfold qClock; rw [if_neg (by rw [h, h1]; decide), if_neg (by rw [h2]; decide), tN_nI (by omega), tN_nI (by omega), tN_nI (by omega), hC]
        refine xc (d + 15) ok_Mo_runs (r_runs E d (M0 M) hX0.1 hr c p s (by omega) hp hs.1 hs.2) (by omega) ?_
        rintro r M' ⟨rfl, b1, b2, b3, b4, b5, b6, b7, b8⟩
        rw [aClk_ag (agM0 M), hC] at b4 b5 b6 b7 b8
        have ag := (agM0 M).tr b1
        have h0 : M'.1 60 0 0 = nI 0 := b3
        refine And.intro (fun ho => ?_) ?_
        · have hne := sw_out ho (by omega) (by omega)
          have hn' : M'.1 60 0 18 = nI (sN M) := (ag.1 60 0 18 rfl).trans hn.1
          refine xq (d + 1) ok_Mo_prices (r_prices E d M' (sN M) hn' hn.2) (by omega) ?_
          refine x_good E _ _ (by omega) (end_ye ag b2 h0 ?_)
          rw [e0, if_neg (hne 0 (by omega) (by omega)), if_neg (hne 1 (by omega) (by omega)), if_neg (hne 2 (by omega) (by omega)), if_neg (hne 3 (by omega) (by omega))]
          unfold cPr
          rw [b6, aPr_cg (sN M) (fun t ht => b8 t ht)]
        · refine And.intro (fun e => ?_) (And.intro (fun e => ?_) (And.intro (fun e => ?_) (And.intro (fun e => ?_) trivial)))
          · refine x_good E _ _ (by omega) (end_ye ag b2 h0 ?_)
            rw [e0, e, b4]; rfl
          · refine x_good E _ _ (by omega) (end_ye ag b2 h0 ?_)
            rw [e0, e, b5]; rfl
          · refine x_good E _ _ (by omega) (end_ye ag b2 h0 ?_)
            rw [e0, e, b6]; rfl
          · refine x_good E _ _ (by omega) (end_ye ag b2 h0 ?_)
            rw [e0, e, b7]; rfl
      · have h2 : aCk M x y z = false := h2
        refine x_ref E _ _ (by omega) (end_no 2 (agM0 M) hr rfl ?_)
        unfold qClock; rw [if_neg (by rw [h, h1]; decide), if_pos h2]
    · have h1 : in3 w 4 = false := h1
      refine x_ref E _ _ (by omega) (end_no 1 (agM0 M) hr rfl ?_)
      unfold qClock; rw [if_pos (by rw [h, h1]; rfl)]
theorem r_pay (hX : RX M) (hr : RRe M) (x y z w : Int32) : Mt E (d + 16) m_Mo_pay [vP 60 0, vI x, vI y, vI z, vI w] M (RQs M (qPay M x y z w)) := by
  have hX0 : RX (M0 M) := hX
  have hn := hX.1.2.1.2
  refine Mt.go ok_Mo_pay [] 60 rfl ?_
  refine xq (d + 1) ok_Mo_isStation (r_isStation E d _ hX0 w) (by omega) ?_
  refine brN (fun h1 => ?_) (fun h1 => ?_)
  · have h1 : aSt M w = true := h1
    obtain ⟨t, ht, rfl⟩ := aSt_at hX.1 h1
    refine xq (d + 2) ok_Mo_isClock (r_isClock E d _ hX0.1 x y z) (by omega) ?_
    refine brN (fun h2 => ?_) (fun h2 => ?_)
    · have h2 : aCk M x y z = true := h2
      obtain ⟨c, p, s, hc, hp, hs, rfl, rfl, rfl⟩ := aCk_at hX.1 h2
      have hc3 := hX.1.1.2
      have e0 : qPay M (nI c) (nI p) (nI s) (nI t) = ye (clP (aClk M c p s) t) := by
        unfold qPay; rw [if_neg (by rw [h1]; decide), if_neg (by rw [h2]; decide), tN_nI (by omega), tN_nI (by omega), tN_nI (by omega), tN_nI (by omega)]
      refine xc (d + 15) ok_Mo_runs (r_runs E d (M0 M) hX0.1 hr c p s (by omega) hp hs.1 hs.2) (by omega) ?_
      rintro r M' ⟨rfl, b1, b2, b3, b4, b5, b6, b7, b8⟩
      rw [aClk_ag (agM0 M)] at b8
      refine ix t (show _ < 8 by omega) rfl ?_
      refine x_good E _ _ (by omega) (end_ye ((agM0 M).tr b1) b2 b3 ?_)
      rw [e0, b8 t ht]
    · have h2 : aCk M x y z = false := h2
      refine x_ref E _ _ (by omega) (end_no 2 (agM0 M) hr rfl ?_)
      unfold qPay; rw [if_neg (by rw [h1]; decide), if_pos h2]
  · have h1 : aSt M w = false := h1
    refine x_ref E _ _ (by omega) (end_no 1 (agM0 M) hr rfl ?_)
    unfold qPay; rw [if_pos h1]
theorem RA_ag {M N : Me} (h : AgR M N) (hA : RA M) : RA N := by
  have ea : acN N = acN M := by unfold acN; rw [h.1 60 0 29 rfl]
  unfold RA
  rw [ea, h.1 60 0 29 rfl]; exact hA
theorem r_clear (hX : RX M) (hA : RA M) (hr : RRe M) (x y z : Int32) : Mt E (d + 16) m_Mo_clear [vP 60 0, vI x, vI y, vI z] M (RTs M (tClear M x y z) (vClear M x y z) (nClear M x y z)) := by
  have hX0 : RX (M0 M) := hX
  have hn := hX.1.2.1
  refine Mt.go ok_Mo_clear [] 80 rfl ?_
  refine qN hX.2 (fun h => ?_) (fun h => ?_)
  · refine xq (d + 2) ok_Mo_isClock (r_isClock E d _ hX0.1 x y z) (by omega) ?_
    refine brN (fun h2 => ?_) (fun h2 => ?_)
    · have h2 : aCk M x y z = true := h2
      obtain ⟨c, p, s, hc, hp, hs, rfl, rfl, rfl⟩ := aCk_at hX.1 h2
      have hc3 := hX.1.1.2
      have et : tClear M (nI c) (nI p) (nI s) = 0 := by unfold tClear; rw [h, h2]; rfl
      refine xc (d + 15) ok_Mo_runs (r_runs E d (M0 M) hX0.1 hr c p s (by omega) hp hs.1 hs.2) (by omega) ?_
      rintro r M' ⟨rfl, b1, b2, b3, b4, b5, b6, b7, b8⟩
      rw [aClk_ag (agM0 M)] at b4 b5 b6 b7 b8
      refine x_rem E _ (RA_ag b1 hA) (by omega) ?_
      have agr := ag_rem b1
      have e36 : (remM M').1 60 0 36 = (aClk M c p s).2.2.1 := (remM_o (by omega) (by omega)).trans b5
      have e37 : (remM M').1 60 0 37 = (aClk M c p s).2.2.2.1 := (remM_o (by omega) (by omega)).trans b6
      have e72 : ∀ t, t < sN M → (remM M').1 72 0 t = clP (aClk M c p s) t := fun t ht => (remM_o (by omega) (by omega)).trans (b8 t ht)
      have e18 : (remM M').1 60 0 18 = nI (sN M) := (remM_o (by omega) (by omega)).trans ((b1.1 60 0 18 rfl).trans hn.1)
      have e25 : (remM M').1 65 0 25 = M.1 65 0 25 := (remM_o (by omega) (by omega)).trans (b1.1 65 0 25 rfl)
      have ev : vClear M (nI c) (nI p) (nI s) = M.1 65 0 25 + aPr ((remM M').1 60 0 37) ((remM M').1 72 0) (sN M) := by
        unfold vClear cPr
        rw [tN_nI (by omega), tN_nI (by omega), tN_nI (by omega), e37, aPr_cg (sN M) e72]
      refine ix 24 (show _ < 26 by omega) rfl ?_
      refine ix 25 (show _ < 26 by omega) rfl ?_
      refine xq (d + 1) ok_Mo_prices (r_prices E d _ (sN M) e18 hn.2) (by omega) ?_
      refine ix 25 (show _ < 26 by omega) rfl ?_
      refine ix 25 (show _ < 26 by omega) rfl ?_
      refine x_good E _ _ (by omega) ?_
      have ev2 : (remM M').1 65 0 25 + aPr ((remM M').1 60 0 37) ((remM M').1 72 0) (sN M) = vClear M (nI c) (nI p) (nI s) := by rw [ev, e25]
      refine Or.inr ⟨et, congrArg (fun z => some (vI z)) ev2, ?_, ?_, ?_, rfl, rfl⟩
      · refine ag_fin ?_
        unfold nClear
        rw [tN_nI (by omega), tN_nI (by omega), tN_nI (by omega)]
        exact sI_ag (sI_ag agr e36.symm) ev2.symm
      · refine RRe_o b2 ?_
        funext r k
        exact remM_o (by omega) (by omega)
      · exact (remM_o (M := M') (i := 60) (r := 0) (k := 0) (by omega) (by omega)).trans b3
    · have h2 : aCk M x y z = false := h2
      have et : tClear M x y z = 2 := by unfold tClear; rw [h, h2]; rfl
      refine x_ref E _ _ (by omega) (Or.inl ⟨by rw [et]; omega, ?_⟩)
      rw [et]
      exact end_no 2 (agM0 M) hr rfl rfl
  · have et : tClear M x y z = 1 := by unfold tClear; rw [h]; rfl
    refine x_ref E _ _ (by omega) (Or.inl ⟨by rw [et]; omega, ?_⟩)
    rw [et]
    exact end_no 1 (agM0 M) hr rfl rfl
end R14
