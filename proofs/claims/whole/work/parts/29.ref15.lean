/-! the reference: squeeze, squeezeOf, lay, order -/
theorem sqF_mem {c : (Nat → Nat) → Nat} : ∀ (X : List (Nat → Nat)) (b : Option (Nat → Nat)) (r : Nat → Nat), sqF c b X = some r → b = some r ∨ r ∈ X
  | [], b, r, h => Or.inl h
  | q :: X, b, r, h => by
    rw [sqF] at h
    rcases sqF_mem X _ r h with h | h
    · cases hc : decide (c q < lst c b)
      · rw [hc, cond_false] at h; exact Or.inl h
      · rw [hc, cond_true] at h
        cases h
        exact Or.inr List.mem_cons_self
    · exact Or.inr (List.mem_cons_of_mem _ h)
theorem exr_bd {S : Nat → Bool} {L : Nat → Nat → Bool} {D : Nat → Nat → Nat → Nat → Bool} {m n : Nat} {ρ r : Nat → Nat} (h : r ∈ exr S L D m n n 0 ρ) : ∀ t, t < n → S t = true → 1 ≤ r t ∧ r t ≤ m := by
  intro t ht hS
  unfold exr at h
  obtain ⟨q, hq, rfl⟩ := List.mem_map.mp h
  obtain ⟨-, -, -, h4⟩ := ext_mem n 0 ρ q hq
  obtain ⟨h5, h6, -⟩ := h4 t (by omega) (by omega) hS
  unfold res
  rw [hS, decide_eq_true ht]
  exact ⟨h5, h6⟩
def sqO (S : Nat → Bool) (L : Nat → Nat → Bool) (D : Nat → Nat → Nat → Nat → Bool) (n : Nat) (o : Nat → Nat) (k : Nat) : Option (Nat → Nat) := sqF (cq S o n) none (exr S L D k n n 0 (fun _ => 0))
theorem aSq_eq (M : Me) (k : Nat) : aSq M k = sqO (bt (M.1 65 0 24)) (aLst M) (aDist M) (sN M) (oN M) k := rfl
theorem sqO_bd {S : Nat → Bool} {L : Nat → Nat → Bool} {D : Nat → Nat → Nat → Nat → Bool} {n : Nat} {o : Nat → Nat} {k : Nat} {r : Nat → Nat} (h : sqO S L D n o k = some r) (hk : k ≤ 10) (ho : ∀ t, t < n → 1 ≤ o t ∧ o t ≤ 10) : ∀ t, t < n → 1 ≤ bq S o r t ∧ bq S o r t ≤ 10 := by
  intro t ht
  rcases sqF_mem _ _ _ h with h | h
  · cases h
  · unfold bq
    cases hS : S t
    · exact ho t ht
    · have := exr_bd h t ht hS
      exact ⟨this.1, Nat.le_trans this.2 hk⟩
def aS (M : Me) : Nat → Bool := bt (M.1 65 0 24)
def qSqueeze (M : Me) (x : Int32) : AT := if hT M = false then no 1 else if aCh M x = false then no 2 else match aSq M (tN x) with
  | none => ye (-(nI 2))
  | some r => ye (nI (cq (aS M) (oN M) (sN M) r))
def qSqueezeOf (M : Me) (x y : Int32) : AT := if aSt M y = false then no 1 else if aCh M x = false then no 2 else match aSq M (tN x) with
  | none => no 6
  | some r => ye (nI (bq (aS M) (oN M) r (tN y)))
def tLay (M : Me) (x : Int32) : Nat := bif !hT M then 1 else bif !aCh M x then 2 else bif (aSq M (tN x)).isSome then 0 else 6
def sqB (M : Me) (m : Nat) : Nat → Nat := match aSq M m with
  | none => fun _ => 0
  | some r => bq (aS M) (oN M) r
def sqL (M : Me) (m : Nat) : Nat := match aSq M m with
  | none => 0
  | some r => cq (aS M) (oN M) (sN M) r
def nLay (M : Me) (x : Int32) : Me := setR (remM (M0 M)) 65 0 0 (sN M) (fun t => nI (sqB M (tN x) t))
def quiet (S : Nat → Bool) (D : Nat → Nat → Nat → Nat → Bool) (β : Nat → Nat) (n : Nat) (θ : Nat → Nat) (s : Nat) : Bool := (List.range n).all (fun t => decide (t = s) || (!S t || !D s (β s) t (θ t)))
def fsq (f : Nat → Option (List Nat)) : Nat → Nat → Option (List Nat)
  | _, 0 => none
  | s, k + 1 => match f s with
    | some l => some l
    | none => fsq f (s + 1) k
def ordF (S : Nat → Bool) (D : Nat → Nat → Nat → Nat → Bool) (β : Nat → Nat) (n : Nat) : Nat → (Nat → Nat) → Option (List Nat)
  | 0, _ => some []
  | k + 1, θ => fsq (fun s => bif !decide (θ s = β s) && quiet S D β n θ s then (ordF S D β n k (upN θ s (β s))).map (s :: ·) else none) 0 n
def qOrder (M : Me) (x y : Int32) : AT := if (hT M && decide (nI 0 ≤ y)) = false then no 1 else if aCh M x = false then no 2 else bif !(aSq M (tN x)).isSome then no 6 else match ordF (aS M) (aDist M) (sqB M (tN x)) (sN M) (sqL M (tN x)) (oN M) with
  | none => ye (-(nI 2))
  | some l => match l[tN y]? with
    | none => ye (-(nI 2))
    | some s => ye (nI s)
section R16
variable (E : EV) (d : Nat) (M : Me)
theorem r_squeeze (hX : RX M) (hr : RRe M) (x : Int32) : Mt E (d + 14) m_Mo_squeeze [vP 60 0, vI x] M (RQs M (qSqueeze M x)) := by
  have hX0 : RX (M0 M) := hX
  refine Mt.go ok_Mo_squeeze [] 60 rfl ?_
  refine qN hX.2 (fun h => ?_) (fun h => ?_)
  · refine xq (d + 1) ok_Mo_isChannel (r_isChannel E d _ hX0.1 x) (by omega) ?_
    refine brN (fun h2 => ?_) (fun h2 => ?_)
    · have h2 : aCh M x = true := h2
      obtain ⟨c, hc1, hc2, rfl⟩ := aCh_at hX.1 h2
      have hc3 := hX.1.1.2
      have e0 : qSqueeze M (nI c) = match aSq M c with
        | none => ye (-(nI 2))
        | some r => ye (nI (cq (aS M) (oN M) (sN M) r)) := by unfold qSqueeze; rw [if_neg (by rw [h]; decide), if_neg (by rw [h2]; decide), tN_nI (by omega)]
      refine xc (d + 13) ok_Mo_isSqueezed (r_isSqueezed E d (M0 M) hX0.1 hr c (by omega)) (by omega) ?_
      rintro r M' ⟨rfl, q1, q2, q3⟩
      have e1 : aSq (M0 M) c = aSq M c := aSq_ag (agM0 M) c
      rw [e1] at q3 ⊢
      have ag := (agM0 M).tr q1.R
      have h0 : M'.1 60 0 0 = nI 0 := q1.1 60 0 0 rfl
      cases hs : aSq M c with
      | none =>
        refine And.intro (fun _ => ?_) (fun q => absurd rfl q)
        refine x_good E _ _ (by omega) (end_ye ag q2 h0 ?_)
        rw [e0, hs]
      | some z =>
        rw [hs] at q3
        refine And.intro (fun q => absurd q (show ¬ nI 1 = nI 0 by decide)) (fun _ => ?_)
        refine x_good E _ _ (by omega) (end_ye ag q2 h0 ?_)
        rw [e0, hs, q3.1]; rfl
    · have h2 : aCh M x = false := h2
      refine x_ref E _ _ (by omega) (end_no 2 (agM0 M) hr rfl ?_)
      unfold qSqueeze; rw [if_neg (by rw [h]; decide), if_pos h2]
  · refine x_ref E _ _ (by omega) (end_no 1 (agM0 M) hr rfl ?_)
    unfold qSqueeze; rw [if_pos h]
theorem r_squeezeOf (hX : RX M) (hr : RRe M) (x y : Int32) : Mt E (d + 14) m_Mo_squeezeOf [vP 60 0, vI x, vI y] M (RQs M (qSqueezeOf M x y)) := by
  have hX0 : RX (M0 M) := hX
  have hn := hX.1.2.1.2
  refine Mt.go ok_Mo_squeezeOf [] 60 rfl ?_
  refine xq (d + 1) ok_Mo_isStation (r_isStation E d _ hX0 y) (by omega) ?_
  refine brN (fun h => ?_) (fun h => ?_)
  · have h : aSt M y = true := h
    obtain ⟨s, hs, rfl⟩ := aSt_at hX.1 h
    refine xq (d + 1) ok_Mo_isChannel (r_isChannel E d _ hX0.1 x) (by omega) ?_
    refine brN (fun h2 => ?_) (fun h2 => ?_)
    · have h2 : aCh M x = true := h2
      obtain ⟨c, hc1, hc2, rfl⟩ := aCh_at hX.1 h2
      have hc3 := hX.1.1.2
      have e0 : qSqueezeOf M (nI c) (nI s) = match aSq M c with
        | none => no 6
        | some r => ye (nI (bq (aS M) (oN M) r s)) := by unfold qSqueezeOf; rw [if_neg (by rw [h]; decide), if_neg (by rw [h2]; decide), tN_nI (by omega), tN_nI (by omega)]
      refine xc (d + 13) ok_Mo_isSqueezed (r_isSqueezed E d (M0 M) hX0.1 hr c (by omega)) (by omega) ?_
      rintro r M' ⟨rfl, q1, q2, q3⟩
      have e1 : aSq (M0 M) c = aSq M c := aSq_ag (agM0 M) c
      rw [e1] at q3 ⊢
      have ag := (agM0 M).tr q1.R
      have h0 : M'.1 60 0 0 = nI 0 := q1.1 60 0 0 rfl
      cases hz : aSq M c with
      | none =>
        refine And.intro (fun _ => ?_) (fun q => absurd rfl q)
        refine x_ref E _ _ (by omega) (end_no 6 ag q2 h0 ?_)
        rw [e0, hz]
      | some z =>
        rw [hz] at q3
        refine And.intro (fun q => absurd q (show ¬ nI 1 = nI 0 by decide)) (fun _ => ?_)
        refine ix s (show _ < 8 by omega) rfl ?_
        refine x_good E _ _ (by omega) (end_ye ag q2 h0 ?_)
        rw [e0, hz, q3.2 z rfl s hs]; rfl
    · have h2 : aCh M x = false := h2
      refine x_ref E _ _ (by omega) (end_no 2 (agM0 M) hr rfl ?_)
      unfold qSqueezeOf; rw [if_neg (by rw [h]; decide), if_pos h2]
  · have h : aSt M y = false := h
    refine x_ref E _ _ (by omega) (end_no 1 (agM0 M) hr rfl ?_)
    unfold qSqueezeOf; rw [if_pos h]
theorem setR_end {M N : Me} {i r n : Nat} {f g : Nat → Int32} (h : AgR M N) (e : ∀ k, k < n → f k = g k) : AgR (setR M i r 0 n f) (setR N i r 0 n g) := setR_ag h e
theorem r_lay (hX : RX M) (hA : RA M) (hr : RRe M) (x : Int32) : Mt E (d + 14) m_Mo_lay [vP 60 0, vI x] M (RTs M (tLay M x) (nI (sqL M (tN x))) (nLay M x)) := by
  have hX0 : RX (M0 M) := hX
  have hn := hX.1.2.1
  refine Mt.go ok_Mo_lay [53] 60 rfl ?_
  refine qN hX.2 (fun h => ?_) (fun h => ?_)
  · refine xq (d + 1) ok_Mo_isChannel (r_isChannel E d _ hX0.1 x) (by omega) ?_
    refine brN (fun h2 => ?_) (fun h2 => ?_)
    · have h2 : aCh M x = true := h2
      obtain ⟨c, hc1, hc2, rfl⟩ := aCh_at hX.1 h2
      have hc3 := hX.1.1.2
      have et : tN (nI c) = c := tN_nI (by omega)
      refine xc (d + 13) ok_Mo_isSqueezed (r_isSqueezed E d (M0 M) hX0.1 hr c (by omega)) (by omega) ?_
      rintro r M' ⟨rfl, q1, q2, q3⟩
      have e1 : aSq (M0 M) c = aSq M c := aSq_ag (agM0 M) c
      rw [e1] at q3 ⊢
      have ag := (agM0 M).tr q1.R
      have h0 : M'.1 60 0 0 = nI 0 := q1.1 60 0 0 rfl
      cases hz : aSq M c with
      | none =>
        refine And.intro (fun q => absurd rfl q) (fun _ => ?_)
        have e6 : tLay M (nI c) = 6 := by unfold tLay; rw [h, h2, et, hz]; rfl
        refine x_ref E _ _ (by omega) (Or.inl ⟨by rw [e6]; omega, ?_⟩)
        rw [e6]
        exact end_no 6 ag q2 h0 rfl
      | some z =>
        rw [hz] at q3
        have e6 : tLay M (nI c) = 0 := by unfold tLay; rw [h, h2, et, hz]; rfl
        have eB : sqB M c = bq (aS M) (oN M) z := by unfold sqB; rw [hz]
        have eL : sqL M c = cq (aS M) (oN M) (sN M) z := by unfold sqL; rw [hz]
        refine And.intro (fun _ => ?_) (fun q => absurd q (show ¬ nI 1 = nI 0 by decide))
        refine x_rem E _ (RA_ag ag hA) (by omega) ?_
        have e18 : (remM M').1 60 0 18 = nI (sN M) := (remM_o (by omega) (by omega)).trans ((ag.1 60 0 18 rfl).trans hn.1)
        have e74 : ∀ t, t < sN M → (remM M').1 74 0 t = nI (sqB M c t) := fun t ht => (remM_o (by omega) (by omega)).trans (by rw [eB]; exact q3.2 z rfl t ht)
        have e41 : (remM M').1 60 0 41 = nI (sqL M c) := (remM_o (by omega) (by omega)).trans (by rw [eL]; exact q3.1)
        have h02 : (remM M').1 60 0 0 = nI 0 := (remM_o (by omega) (by omega)).trans h0
        have key : ∀ t, t ≤ sN M → ∀ N, N = setR (remM M') 65 0 0 t (fun t => nI (sqB M c t)) → Wp E (d + 14) m_Mo_lay 53 [some (vP 60 0), some (vI (nI c)), some (vI (nI t))] [] N (RTs M (tLay M (nI c)) (nI (sqL M (tN (nI c)))) (nLay M (nI c))) := by
          refine loopUp (sN M) ?_ ?_
          · rintro N rfl
            refine go ok_Mo_lay [53] 60 ?_
            refine qLe e18 rfl (by omega) (by omega) (fun _ => ?_) (fun q => absurd q (by omega))
            refine x_good E _ _ (by omega) ?_
            refine Or.inr ⟨e6, ?_, ?_, ?_, ?_, rfl, rfl⟩
            · rw [et, ← e41]; rfl
            · refine ag_fin ?_
              unfold nLay
              rw [et]
              exact setR_ag (ag_rem q1.R) (fun k _ => rfl)
            · refine RRe_o q2 ?_
              funext r k
              exact remM_o (by omega) (by omega)
            · exact h02
          · rintro t hlt ih N rfl
            refine go ok_Mo_lay [53] 60 ?_
            refine qLe e18 rfl (by omega) (by omega) (fun q => absurd q (by omega)) (fun _ => ?_)
            refine ix t (show _ < 8 by omega) rfl ?_
            refine ix t (show _ < 26 by omega) (by rw [nI_s8, Nat.zero_add]) ?_
            refine nm_r (nI_add _ _) (ih _ ?_)
            have e : (setR (remM M') 65 0 0 t (fun t => nI (sqB M c t))).1 74 0 t = nI (sqB M c t) := e74 t hlt
            rw [e, ← setR_step, Nat.zero_add]
        exact key 0 (Nat.zero_le _) _ (setR_0 _ _ _ _ _).symm
    · have h2 : aCh M x = false := h2
      have et : tLay M x = 2 := by unfold tLay; rw [h, h2]; rfl
      refine x_ref E _ _ (by omega) (Or.inl ⟨by rw [et]; omega, ?_⟩)
      rw [et]
      exact end_no 2 (agM0 M) hr rfl rfl
  · have et : tLay M x = 1 := by unfold tLay; rw [h]; rfl
    refine x_ref E _ _ (by omega) (Or.inl ⟨by rw [et]; omega, ?_⟩)
    rw [et]
    exact end_no 1 (agM0 M) hr rfl rfl
/-- what the order's search sees -/
def RTh (n : Nat) (N : Me) (θ : Nat → Nat) : Prop := ∀ t, t < n → N.1 76 0 t = nI (θ t) ∧ θ t ≤ 10
def RBe (n : Nat) (N : Me) (β : Nat → Nat) : Prop := ∀ t, t < n → N.1 74 0 t = nI (β t) ∧ β t ≤ 10
def scr5 (i : Nat) : Bool := Nat.beq i 75 || Nat.beq i 76
def Ag5 (M M' : Me) : Prop := (∀ i r k, scr5 i = false → M'.1 i r k = M.1 i r k) ∧ M'.2 = M.2
theorem Ag5.rf (M : Me) : Ag5 M M := ⟨fun _ _ _ _ => rfl, rfl⟩
theorem Ag5.tr {M M' M'' : Me} (h : Ag5 M M') (h' : Ag5 M' M'') : Ag5 M M'' := ⟨fun i r k e => (h'.1 i r k e).trans (h.1 i r k e), h'.2.trans h.2⟩
theorem ag5_sI {M : Me} {i r k : Nat} {x : Int32} (h : scr5 i = true) : Ag5 M (sI M i r k x) := ⟨fun a b c e => up3_ne (fun z => by obtain ⟨rfl, rfl, rfl⟩ := z; rw [h] at e; cases e), rfl⟩
theorem Ag5.R {M M' : Me} (h : Ag5 M M') : AgR M M' := ⟨fun i r k e => h.1 i r k (by
  cases e2 : scr5 i with
  | false => rfl
  | true =>
    unfold scr5 at e2
    simp only [Bool.or_eq_true, Nat.beq_eq] at e2
    rcases e2 with rfl | rfl
    · have h2 : scrR 75 k = true := rfl
      rw [h2] at e; cases e
    · have h2 : scrR 76 k = true := rfl
      rw [h2] at e; cases e), h.2⟩
theorem RTh_up {n : Nat} {N : Me} {θ : Nat → Nat} (h : RTh n N θ) {s c : Nat} (hc : c ≤ 10) : RTh n (sI N 76 0 s (nI c)) (upN θ s c) := by
  intro t ht
  show up3 N.1 76 0 s (nI c) 76 0 t = _ ∧ _
  rw [up3_at]
  by_cases e : t = s
  · rw [if_pos e, e, upN_same]; exact ⟨rfl, hc⟩
  · rw [if_neg e, upN_ne e]; exact h t ht
theorem r_isQuiet (hR : RW M) (β θ : Nat → Nat) (hB : RBe (sN M) M β) (hT : RTh (sN M) M θ) (s : Nat) (hs : s < sN M) : Mt E (d + 3) m_Mo_isQuiet [vP 60 0, vI (nI s)] M (RP (vI (bI (quiet (aS M) (aDist M) β (sN M) θ s))) M) := by
  obtain ⟨⟨hc, hc'⟩, ⟨hn, hn'⟩, ⟨hb, hb'⟩, ho⟩ := id hR
  refine Mt.go ok_Mo_isQuiet [4] 60 rfl ?_
  generalize hf : (fun t => decide (t = s) || (!aS M t || !aDist M s (β s) t (θ t))) = f
  have hres : quiet (aS M) (aDist M) β (sN M) θ s = (List.range (sN M)).all f := by unfold quiet; rw [hf]
  rw [hres]
  have key : ∀ t, t ≤ sN M → ∀ b, b = (List.range t).all f → Wp E (d + 3) m_Mo_isQuiet 4 [some (vP 60 0), some (vI (nI s)), some (vI (bI b)), some (vI (nI t))] [] M (RP (vI (bI ((List.range (sN M)).all f))) M) := by
    refine loopUp (sN M) ?_ ?_
    · intro b hb2
      refine go ok_Mo_isQuiet [4] 60 ?_
      refine qLe hn rfl (by omega) (by omega) (fun _ => ?_) (fun q => absurd q (by omega))
      exact And.intro (bI_or _) (And.intro (by rw [hb2]) rfl)
    · intro t hlt ih b hb2
      refine go ok_Mo_isQuiet [4] 60 ?_
      refine qLe hn rfl (by omega) (by omega) (fun q => absurd q (by omega)) (fun _ => ?_)
      have ihT : f t = true → b = true → Wp E (d + 3) m_Mo_isQuiet 4 [some (vP 60 0), some (vI (nI s)), some (vI (nI 1)), some (vI (nI (t + 1)))] [] M (RP (vI (bI ((List.range (sN M)).all f))) M) := by
        intro h1 h2
        refine ih true ?_
        rw [all_succ, ← hb2, h1, h2]; rfl
      refine brF (fun h => ?_) (fun h => ?_)
      · refine nm_r (nI_add _ _) (ih false ?_)
        rw [all_succ, ← hb2, h]; rfl
      · refine cEq (by omega) (by omega) (fun e => ?_) (fun e => ?_)
        · refine nm_r (nI_add _ _) (ihT ?_ h)
          rw [← hf]; simp only [decide_eq_true e, Bool.true_or]
        · refine xq (d + 1) ok_Mo_isOn (r_isOn E d M t (by omega)) (by omega) ?_
          refine brF (fun h1 => ?_) (fun h1 => ?_)
          · have h1 : aS M t = false := h1
            refine nm_r (nI_add _ _) (ihT ?_ h)
            rw [← hf]; simp only [h1, Bool.not_false, Bool.true_or, Bool.or_true]
          · have h1 : aS M t = true := h1
            refine ix s (show _ < 8 by omega) rfl ?_
            refine ix t (show _ < 8 by omega) rfl ?_
            obtain ⟨w1, w2⟩ := hB s hs
            obtain ⟨w3, w4⟩ := hT t hlt
            refine xq (d + 2) ok_Mo_disturb (by rw [w1, w3]; exact r_disturb E d M s (β s) t (θ t) (by omega) (by omega) (by omega) (by omega)) (by omega) ?_
            refine brN (fun h2 => ?_) (fun h2 => ?_)
            · refine nm_r (nI_add _ _) (ih false ?_)
              rw [all_succ, ← hf]
              simp only [h1, h2, decide_eq_false e, Bool.not_true, Bool.or_false, Bool.and_false]
            · refine nm_r (nI_add _ _) (ihT ?_ h)
              rw [← hf]
              simp only [h1, h2, Bool.not_false, Bool.or_true]
  exact key 0 (Nat.zero_le _) true rfl
end R16
