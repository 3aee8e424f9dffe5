/-! the reference: order -/
def okGo (n0 : Nat) (N : Me) : List Nat → Prop
  | [] => True
  | s :: l => N.1 75 0 n0 = nI s ∧ okGo (n0 + 1) N l
theorem okGo_at : ∀ (l : List Nat) (n0 : Nat) (N : Me), okGo n0 N l → ∀ i s, l[i]? = some s → N.1 75 0 (n0 + i) = nI s
  | [], _, _, _, i, s, h => by simp at h
  | a :: l, n0, N, h, 0, s, e => by
    simp only [List.getElem?_cons_zero, Option.some.injEq] at e
    subst e
    exact h.1
  | a :: l, n0, N, h, i + 1, s, e => by
    rw [List.getElem?_cons_succ] at e
    have := okGo_at l (n0 + 1) N h.2 i s e
    rw [show n0 + 1 + i = n0 + (i + 1) by omega] at this
    exact this
theorem okGo_ag : ∀ (l : List Nat) (n0 : Nat) (N N' : Me), N'.1 75 = N.1 75 → okGo n0 N l → okGo n0 N' l
  | [], _, _, _, _, _ => trivial
  | a :: l, n0, N, N', e, h => ⟨by rw [e]; exact h.1, okGo_ag l (n0 + 1) N N' e h.2⟩
theorem fsq_len {f : Nat → Option (List Nat)} {k : Nat} (hf : ∀ s l, f s = some l → l.length = k) : ∀ (j s : Nat) (l : List Nat), fsq f s j = some l → l.length = k
  | 0, _, _, h => by cases h
  | j + 1, s, l, h => by
    rw [fsq] at h
    cases hs : f s with
    | none => rw [hs] at h; exact fsq_len hf j (s + 1) l h
    | some q => rw [hs] at h; cases h; exact hf s _ hs
theorem ordF_len {S : Nat → Bool} {D : Nat → Nat → Nat → Nat → Bool} {β : Nat → Nat} {n : Nat} : ∀ (k : Nat) (θ : Nat → Nat) (l : List Nat), ordF S D β n k θ = some l → l.length = k
  | 0, θ, l, h => by cases h; rfl
  | k + 1, θ, l, h => by
    rw [ordF] at h
    refine fsq_len (fun s l hl => ?_) n 0 l h
    cases hc : (!decide (θ s = β s) && quiet S D β n θ s)
    · rw [hc, cond_false] at hl; cases hl
    · rw [hc, cond_true] at hl
      obtain ⟨q, hq, rfl⟩ := Option.map_eq_some_iff.mp hl
      rw [List.length_cons, ordF_len k _ q hq]
section R17
variable (E : EV) (d : Nat)
theorem r_isOrdered (K : Me) (hR : RW K) (S : Nat → Bool) (hS : aS K = S) (D : Nat → Nat → Nat → Nat → Bool) (hD : aDist K = D) (n : Nat) (hN : sN K = n) (β : Nat → Nat) (ls : Nat) (hls : ls ≤ 8) (hB : RBe n K β) (hL : K.1 60 0 41 = nI ls) : ∀ (k n0 : Nat) (M : Me) (θ : Nat → Nat), n0 + k = ls → Ag5 K M → RTh n M θ → Mt E (d + 4 + k) m_Mo_isOrdered [vP 60 0, vI (nI n0)] M (fun r M' => r = some (vI (bI (ordF S D β n k θ).isSome)) ∧ Ag5 M M' ∧ (∀ j, j < n0 → M'.1 75 0 j = M.1 75 0 j) ∧ (∀ l, ordF S D β n k θ = some l → okGo n0 M' l) ∧ (ordF S D β n k θ = none → RTh n M' θ)) := by
  obtain ⟨⟨hc, hc'⟩, ⟨hn, hn'⟩, ⟨hb, hb'⟩, ho⟩ := id hR
  rw [hN] at hn hn'
  intro k
  induction k with
  | zero =>
    intro n0 M θ hk hag hth
    have hl : M.1 60 0 41 = nI ls := (hag.1 60 0 41 rfl).trans hL
    refine Mt.go ok_Mo_isOrdered [12] 60 rfl ?_
    refine qNe rfl hl (by omega) (by omega) (fun q => absurd q (by omega)) (fun _ => ?_)
    refine And.intro (Or.inr rfl) (And.intro rfl ⟨Ag5.rf M, fun _ _ => rfl, fun l h => ?_, fun h => by cases h⟩)
    cases h; trivial
  | succ k ih =>
    intro n0 M θ hk hag hth
    have hl : M.1 60 0 41 = nI ls := (hag.1 60 0 41 rfl).trans hL
    generalize hf : (fun s => bif !decide (θ s = β s) && quiet S D β n θ s then (ordF S D β n k (upN θ s (β s))).map (s :: ·) else none) = f
    have hres : ordF S D β n (k + 1) θ = fsq f 0 n := by rw [ordF, hf]
    rw [hres]
    refine Mt.go ok_Mo_isOrdered [12] 60 rfl ?_
    refine qNe rfl hl (by omega) (by omega) (fun _ => ?_) (fun q => absurd q (by omega))
    have key : ∀ s, s ≤ n → ∀ N j3, Ag5 M N → (∀ j, j < n0 → N.1 75 0 j = M.1 75 0 j) → RTh n N θ → fsq f 0 n = fsq f s (n - s) → Wp E (d + 4 + (k + 1)) m_Mo_isOrdered 12 [some (vP 60 0), some (vI (nI n0)), some (vI (nI s)), j3] [] N (fun r M' => r = some (vI (bI (fsq f 0 n).isSome)) ∧ Ag5 M M' ∧ (∀ j, j < n0 → M'.1 75 0 j = M.1 75 0 j) ∧ (∀ l, fsq f 0 n = some l → okGo n0 M' l) ∧ (fsq f 0 n = none → RTh n M' θ)) := by
      refine loopUp n ?_ ?_
      · intro N j3 a1 a2 a3 a4
        have h18 : N.1 60 0 18 = nI n := (a1.1 60 0 18 rfl).trans ((hag.1 60 0 18 rfl).trans hn)
        refine go ok_Mo_isOrdered [12] 60 ?_
        refine qLe h18 rfl (by omega) (by omega) (fun _ => ?_) (fun q => absurd q (by omega))
        have a5 : fsq f 0 n = none := by rw [a4, Nat.sub_self]; rfl
        rw [a5]
        exact And.intro (Or.inl rfl) (And.intro rfl ⟨a1, a2, fun l h => by (cases h), fun _ => a3⟩)
      · intro s hlt ihs N j3 a1 a2 a3 a4
        have aK := hag.tr a1
        have aR := aK.R
        have h18 : N.1 60 0 18 = nI n := (aK.1 60 0 18 rfl).trans hn
        have hBN : RBe n N β := fun t ht => ⟨(aK.1 74 0 t rfl).trans (hB t ht).1, (hB t ht).2⟩
        have e1 : n - s = (n - (s + 1)) + 1 := by omega
        obtain ⟨w1, w2⟩ := hBN s hlt
        obtain ⟨w3, w4⟩ := a3 s hlt
        refine go ok_Mo_isOrdered [12] 60 ?_
        refine qLe h18 rfl (by omega) (by omega) (fun q => absurd q (by omega)) (fun _ => ?_)
        refine ix s (show _ < 8 by omega) rfl ?_
        refine ix s (show _ < 8 by omega) rfl ?_
        refine qEq w3 w1 (by omega) (by omega) (fun he => ?_) (fun hne => ?_)
        · refine nm_r (nI_add _ _) (ihs N _ a1 a2 a3 ?_)
          have : f s = none := by rw [← hf]; simp only [decide_eq_true he, Bool.not_true, Bool.false_and, cond_false]
          rw [a4, e1, fsq, this]
        · have hq := r_isQuiet E d N (agRW aR hR) β θ (by rw [agS aR, hN]; exact hBN) (by rw [agS aR, hN]; exact a3) s (by rw [agS aR, hN]; exact hlt)
          rw [agS aR, hN, agD aR, hD, show aS N = S by unfold aS; rw [ag65 aR]; exact hS] at hq
          refine xq (d + 3) ok_Mo_isQuiet hq (by omega) ?_
          refine brN (fun h1 => ?_) (fun h1 => ?_)
          · have hfs : f s = (ordF S D β n k (upN θ s (β s))).map (s :: ·) := by rw [← hf]; simp only [h1, decide_eq_false hne, Bool.not_false, Bool.true_and, cond_true]
            refine ix s (show _ < 8 by omega) rfl ?_
            refine ix s (show _ < 8 by omega) rfl ?_
            refine ix s (show _ < 8 by omega) rfl ?_
            refine ix n0 (show _ < 8 by omega) rfl ?_
            rw [w1, w3]
            have b1 : Ag5 N (sI (sI N 76 0 s (nI (β s))) 75 0 n0 (nI s)) := (ag5_sI rfl).tr (ag5_sI rfl)
            have b2 : RTh n (sI (sI N 76 0 s (nI (β s))) 75 0 n0 (nI s)) (upN θ s (β s)) := RTh_up a3 w2
            refine xc (d + 4 + k) ok_Mo_isOrdered (by
              rw [nI_add]
              exact ih (n0 + 1) (sI (sI N 76 0 s (nI (β s))) 75 0 n0 (nI s)) (upN θ s (β s)) (by omega) (aK.tr b1) b2) (by omega) ?_
            rintro r M' ⟨rfl, q1, q2, q3, q4⟩
            have q2' : ∀ j, j < n0 → M'.1 75 0 j = M.1 75 0 j := by
              intro j hj
              rw [q2 j (by omega)]
              show up3 _ 75 0 n0 _ 75 0 j = _
              rw [up3_ne (by omega)]
              exact a2 j hj
            cases hrec : ordF S D β n k (upN θ s (β s)) with
            | none =>
              refine And.intro (fun _ => ?_) (fun q => absurd rfl q)
              refine ix s (show _ < 8 by omega) rfl ?_
              refine nm_r (nI_add _ _) (ihs _ _ ((a1.tr b1).tr (q1.tr (ag5_sI rfl))) q2' ?_ ?_)
              · have hh := RTh_up (q4 hrec) (s := s) w4
                intro t ht
                have h3 := hh t ht
                by_cases e : t = s
                · subst e; rw [upN_same] at h3; exact h3
                · rw [upN_ne e, upN_ne e] at h3; exact h3
              · rw [a4, e1, fsq, hfs, hrec]; rfl
            | some l =>
              refine And.intro (fun q => absurd q (show ¬ nI 1 = nI 0 by decide)) (fun _ => ?_)
              have e5 : fsq f 0 n = some (s :: l) := by rw [a4, e1, fsq, hfs, hrec]; rfl
              rw [e5]
              refine And.intro (Or.inr rfl) (And.intro rfl ⟨(a1.tr b1).tr q1, q2', fun l' hl' => ?_, fun h => by (cases h)⟩)
              cases hl'
              refine ⟨?_, q3 l hrec⟩
              rw [q2 n0 (by omega)]
              exact up3_same
          · refine nm_r (nI_add _ _) (ihs N _ a1 a2 a3 ?_)
            have : f s = none := by rw [← hf]; simp only [h1, Bool.and_false, cond_false]
            rw [a4, e1, fsq, this]
    exact key 0 (Nat.zero_le _) M _ (Ag5.rf M) (fun _ _ => rfl) hth rfl
theorem r_order (M : Me) (hX : RX M) (hr : RRe M) (x y : Int32) : Mt E (d + 14) m_Mo_order [vP 60 0, vI x, vI y] M (RQs M (qOrder M x y)) := by
  have hX0 : RX (M0 M) := hX
  obtain ⟨⟨hc, hc'⟩, ⟨hn, hn'⟩, ⟨hb, hb'⟩, ho⟩ := id hX.1
  refine Mt.go ok_Mo_order [53] 60 rfl ?_
  refine qF hX.2 (fun h => ?_) (fun h => ?_)
  · refine x_ref E _ _ (by omega) (end_no 1 (agM0 M) hr rfl ?_)
    unfold qOrder; rw [if_pos (by rw [h]; rfl)]
  · refine And.intro (fun h1 => ?_) (fun h1 => ?_)
    · obtain ⟨i, hi, rfl⟩ := nneg h1
      refine xq (d + 1) ok_Mo_isChannel (r_isChannel E d _ hX0.1 x) (by omega) ?_
      refine brN (fun h2 => ?_) (fun h2 => ?_)
      · have h2 : aCh M x = true := h2
        obtain ⟨c, hc1, hc2, rfl⟩ := aCh_at hX.1 h2
        have e0 : qOrder M (nI c) (nI i) = bif !(aSq M c).isSome then no 6 else match ordF (aS M) (aDist M) (sqB M c) (sN M) (sqL M c) (oN M) with
            | none => ye (-(nI 2))
            | some l => match l[i]? with
              | none => ye (-(nI 2))
              | some s => ye (nI s) := by unfold qOrder; rw [if_neg (by rw [h, decide_eq_true h1]; decide), if_neg (by rw [h2]; decide), tN_nI (by omega), tN_nI hi]; rfl
        refine xc (d + 13) ok_Mo_isSqueezed (r_isSqueezed E d (M0 M) hX0.1 hr c (by omega)) (by omega) ?_
        rintro r M' ⟨rfl, q1, q2, q3⟩
        have e1 : aSq (M0 M) c = aSq M c := aSq_ag (agM0 M) c
        rw [e1] at q3 ⊢
        have ag := (agM0 M).tr q1.R
        have h0 : M'.1 60 0 0 = nI 0 := q1.1 60 0 0 rfl
        cases hz : aSq M c with
        | none =>
          refine And.intro (fun q => absurd rfl q) (fun _ => ?_)
          refine x_ref E _ _ (by omega) (end_no 6 ag q2 h0 ?_)
          rw [e0, hz]; rfl
        | some z =>
          rw [hz] at q3
          have eB : sqB M c = bq (aS M) (oN M) z := by unfold sqB; rw [hz]
          have eL : sqL M c = cq (aS M) (oN M) (sN M) z := by unfold sqL; rw [hz]
          have hls : sqL M c ≤ sN M := by rw [eL]; exact mvC_le _ _ _ _
          have hbd := sqO_bd (o := oN M) (k := c) ((aSq_eq M c).symm.trans hz) (by omega) (fun t ht => (ho t ht).2)
          have h41 : M'.1 60 0 41 = nI (sqL M c) := by rw [eL]; exact q3.1
          have h74 : RBe (sN M) M' (sqB M c) := fun t ht => ⟨by rw [eB]; exact q3.2 z rfl t ht, by rw [eB]; exact (hbd t ht).2⟩
          have h18 : M'.1 60 0 18 = nI (sN M) := (ag.1 60 0 18 rfl).trans hn
          have key : ∀ t, t ≤ sN M → ∀ N, N = setR M' 76 0 0 t (M.1 65 0) → Wp E (d + 14) m_Mo_order 53 [some (vP 60 0), some (vI (nI c)), some (vI (nI i)), some (vI (nI t))] [] N (RQs M (qOrder M (nI c) (nI i))) := by
            refine loopUp (sN M) ?_ ?_
            · rintro N rfl
              refine go ok_Mo_order [53] 60 ?_
              refine qLe h18 rfl (by omega) (by omega) (fun _ => ?_) (fun q => absurd q (by omega))
              have b1 : Ag5 M' (setR M' 76 0 0 (sN M) (M.1 65 0)) := ⟨fun i r j e => setR_out (fun z => by obtain ⟨rfl, rfl, z3, z4⟩ := z; cases e), rfl⟩
              have b2 : RTh (sN M) (setR M' 76 0 0 (sN M) (M.1 65 0)) (oN M) := by
                intro t ht
                have := setR_at (M := M') (i := 76) (r := 0) (lo := 0) (n := sN M) (f := M.1 65 0) (k := t) ht
                rw [Nat.zero_add] at this
                rw [this]
                exact ⟨(ho t ht).1, (ho t ht).2.2⟩
              have hord := r_isOrdered E d M' (agRW ag hX.1) (aS M) (by unfold aS; rw [ag65 ag]) (aDist M) (agD ag) (sN M) (agS ag) (sqB M c) (sqL M c) (by omega) h74 h41 (sqL M c) 0 (setR M' 76 0 0 (sN M) (M.1 65 0)) (oN M) (Nat.zero_add _) b1 b2
              refine xc (d + 4 + sqL M c) ok_Mo_isOrdered hord (by omega) ?_
              rintro r N' ⟨rfl, p1, p2, p3, p4⟩
              have pK := b1.tr p1
              have agN := ag.tr pK.R
              have h0N : N'.1 60 0 0 = nI 0 := (pK.1 60 0 0 rfl).trans h0
              have hrN : RRe N' := RRe_o q2 (by funext r k; exact pK.1 70 r k rfl)
              have h41N : N'.1 60 0 41 = nI (sqL M c) := (pK.1 60 0 41 rfl).trans h41
              cases hq : ordF (aS M) (aDist M) (sqB M c) (sN M) (sqL M c) (oN M) with
              | none =>
                refine And.intro (fun _ => ?_) (fun q => absurd rfl q)
                refine x_good E _ _ (by omega) (end_ye agN hrN h0N ?_)
                rw [e0, hz, hq]; rfl
              | some l =>
                have hlen := ordF_len _ _ _ hq
                refine And.intro (fun q => absurd q (show ¬ nI 1 = nI 0 by decide)) (fun _ => ?_)
                refine qLe h41N rfl (by omega) hi (fun hge => ?_) (fun hlt => ?_)
                · refine x_good E _ _ (by omega) (end_ye agN hrN h0N ?_)
                  rw [e0, hz, hq]
                  dsimp only [Option.isSome, Bool.not_true, cond_false]
                  rw [List.getElem?_eq_none (by omega)]; rfl
                · refine ix i (show _ < 8 by omega) rfl ?_
                  refine x_good E _ _ (by omega) (end_ye agN hrN h0N ?_)
                  rw [e0, hz, hq]
                  dsimp only [Option.isSome, Bool.not_true, cond_false]
                  have hg := List.getElem?_eq_getElem (l := l) (i := i) (by omega)
                  rw [hg]
                  have := okGo_at l 0 N' (p3 l hq) i _ hg
                  rw [Nat.zero_add] at this
                  rw [this]; rfl
            · rintro t hlt ih N rfl
              refine go ok_Mo_order [53] 60 ?_
              refine qLe h18 rfl (by omega) (by omega) (fun q => absurd q (by omega)) (fun _ => ?_)
              refine ix t (show _ < 26 by omega) (by rw [nI_s8, Nat.zero_add]) ?_
              refine ix t (show _ < 8 by omega) rfl ?_
              refine nm_r (nI_add _ _) (ih _ ?_)
              rw [← setR_step, Nat.zero_add, ← ag65 ag]; rfl
          refine And.intro (fun _ => ?_) (fun q => absurd q (show ¬ nI 1 = nI 0 by decide))
          exact key 0 (Nat.zero_le _) _ (setR_0 _ _ _ _ _).symm
      · have h2 : aCh M x = false := h2
        refine x_ref E _ _ (by omega) (end_no 2 (agM0 M) hr rfl ?_)
        unfold qOrder; rw [if_neg (by rw [h, decide_eq_true h1]; decide), if_pos h2]
    · refine x_ref E _ _ (by omega) (end_no 1 (agM0 M) hr rfl ?_)
      unfold qOrder; rw [if_pos (by rw [h, decide_eq_false h1]; rfl)]
end R17
