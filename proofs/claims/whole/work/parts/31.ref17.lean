/-! the reference: steps -/
def stF (S : Nat → Bool) (L : Nat → Nat → Bool) (D : Nat → Nat → Nat → Nat → Bool) (n : Nat) : Nat → Nat → (Nat → Nat) → Nat → Nat → Option (Nat × Nat × (Nat → Nat))
  | 0, _, o, a, t => some (a, t, o)
  | j + 1, k, o, a, t => match sqO S L D n o k with
    | none => none
    | some r => stF S L D n j (k - 1) (bq S o r) (a + cq S o n r) (max t (cq S o n r))
def allC (o o' : Nat → Nat) (n : Nat) : Nat := mvC (fun _ => true) o o' n
def stV (o : Nat → Nat) (n : Nat) (y : Int32) : Option (Nat × Nat × (Nat → Nat)) → AT
  | none => ye (-(nI 2))
  | some q => if y = nI 0 then ye (nI q.1) else if y = nI 1 then ye (nI q.2.1) else ye (nI (allC o q.2.2 n))
def qSteps (M : Me) (x y : Int32) : AT := if (hT M && in3 y 2) = false then no 1 else if aCh M x = false then no 2 else stV (oN M) (sN M) y (stF (aS M) (aLst M) (aDist M) (sN M) (cN M - tN x) (cN M - 1) (oN M) 0 0)
/-- the memory in the midst of steps: others' channels laid in -/
def NS (M N : Me) (o : Nat → Nat) : Prop := ((∀ i r k, scrR i k = false → ¬ (i = 65 ∧ r = 0 ∧ k < sN M) → N.1 i r k = M.1 i r k) ∧ N.2 = M.2) ∧ (∀ t, t < sN M → N.1 65 0 t = nI (o t) ∧ 1 ≤ o t ∧ o t ≤ 10) ∧ (∀ t, t < sN M → N.1 77 0 t = M.1 65 0 t) ∧ RRe N ∧ N.1 60 0 0 = nI 0
theorem NS.c {M N : Me} {o : Nat → Nat} (h : NS M N o) : cN N = cN M ∧ sN N = sN M ∧ bN N = bN M := by
  unfold cN sN bN
  rw [h.1.1 60 0 17 rfl (by omega), h.1.1 60 0 18 rfl (by omega), h.1.1 60 0 19 rfl (by omega)]
  exact ⟨rfl, rfl, rfl⟩
theorem NS.o {M N : Me} {o : Nat → Nat} (h : NS M N o) {t : Nat} (ht : t < sN M) : oN N t = o t := by
  obtain ⟨h1, h2, h3⟩ := h.2.1 t ht
  unfold oN
  rw [h1]
  exact nI_clamp (by omega)
theorem NS.rw {M N : Me} {o : Nat → Nat} (h : NS M N o) (hR : RW M) : RW N := by
  obtain ⟨⟨hc, hc'⟩, ⟨hn, hn'⟩, ⟨hb, hb'⟩, ho⟩ := hR
  obtain ⟨e1, e2, e3⟩ := h.c
  refine ⟨⟨?_, by omega⟩, ⟨?_, by omega⟩, ⟨?_, by omega⟩, fun s hs => ?_⟩
  · rw [h.1.1 60 0 17 rfl (by omega), e1]; exact hc
  · rw [h.1.1 60 0 18 rfl (by omega), e2]; exact hn
  · rw [h.1.1 60 0 19 rfl (by omega), e3]; exact hb
  · rw [e2] at hs
    rw [h.o hs]; exact h.2.1 s hs
theorem NS.r62 {M N : Me} {o : Nat → Nat} (h : NS M N o) (i : Nat) (h1 : i ≠ 65) (h2 : ∀ k, scrR i k = false) : N.1 i = M.1 i := by
  funext r k
  exact h.1.1 i r k (h2 k) (by omega)
theorem NS.d {M N : Me} {o : Nat → Nat} (h : NS M N o) : aDist N = aDist M := by
  funext s c t e
  unfold aDist aClash aBrush aFar aMx aRch
  rw [h.r62 62 (by omega) (fun _ => rfl)]
theorem NS.l {M N : Me} {o : Nat → Nat} (h : NS M N o) (hn : sN M ≤ 8) : aLst N = aLst M := by
  funext s i
  unfold aLst lstK aCnt aFar aRch
  rw [h.r62 62 (by omega) (fun _ => rfl), h.r62 63 (by omega) (fun _ => rfl), h.c.1, h.c.2.2, h.1.1 65 0 (16 + s) rfl (by omega)]
theorem NS.s {M N : Me} {o : Nat → Nat} (h : NS M N o) (hn : sN M ≤ 8) : N.1 65 0 24 = M.1 65 0 24 := h.1.1 65 0 24 rfl (by omega)
theorem cq_cg {S : Nat → Bool} {o o' : Nat → Nat} {n : Nat} (h : ∀ t, t < n → o t = o' t) : cq S o n = cq S o' n := by
  funext r
  unfold cq
  have : ∀ k, k ≤ n → mvC S o r k = mvC S o' r k := by
    intro k
    induction k with
    | zero => intro _; rfl
    | succ k ih => intro hk; rw [mvC, mvC, ih (by omega), h k (by omega)]
  exact this n (Nat.le_refl n)
theorem sqO_cg {S : Nat → Bool} {L : Nat → Nat → Bool} {D : Nat → Nat → Nat → Nat → Bool} {n k : Nat} {o o' : Nat → Nat} (h : ∀ t, t < n → o t = o' t) : sqO S L D n o k = sqO S L D n o' k := by
  unfold sqO
  rw [cq_cg h]
theorem NS.q {M N : Me} {o : Nat → Nat} (h : NS M N o) (hn : sN M ≤ 8) (k : Nat) : aSq N k = sqO (aS M) (aLst M) (aDist M) (sN M) o k := by
  rw [aSq_eq, h.d, h.l hn, h.s hn, h.c.2.1]
  exact sqO_cg (fun t ht => h.o ht)
theorem NS.go {M N N' : Me} {o : Nat → Nat} (h : NS M N o) (g : Ag4 N N') (hr : RRe N') : NS M N' o := by
  obtain ⟨⟨h1, h1'⟩, h2, h3, h4, h5⟩ := h
  refine ⟨⟨fun i r k e1 e2 => (g.1 i r k (scr4_R e1)).trans (h1 i r k e1 e2), g.2.trans h1'⟩, fun t ht => ?_, fun t ht => (g.1 77 0 t rfl).trans (h3 t ht), hr, (g.1 60 0 0 rfl).trans h5⟩
  rw [g.1 65 0 t rfl]; exact h2 t ht
section R18
variable (E : EV) (d : Nat) (M : Me)
theorem r_steps (hX : RX M) (hr : RRe M) (x y : Int32) : Mt E (d + 14) m_Mo_steps [vP 60 0, vI x, vI y] M (RQs M (qSteps M x y)) := by
  have hX0 : RX (M0 M) := hX
  obtain ⟨⟨hc, hc'⟩, ⟨hn, hn'⟩, ⟨hb, hb'⟩, ho⟩ := id hX.1
  refine Mt.go ok_Mo_steps [43] 60 rfl ?_
  refine qF hX.2 (fun h => ?_) (fun h => ?_)
  · refine x_ref E _ _ (by omega) (end_no 1 (agM0 M) hr rfl ?_)
    unfold qSteps; rw [if_pos (by rw [h]; rfl)]
  · refine xq d ok_Mo_in (r_in E d _ _ _ _) (by omega) ?_
    refine brN (fun h1 => ?_) (fun h1 => ?_)
    · have h1 : in3 y 2 = true := h1
      obtain ⟨w, hw, rfl⟩ := in3_at (by omega) h1
      refine xq (d + 1) ok_Mo_isChannel (r_isChannel E d _ hX0.1 x) (by omega) ?_
      refine brN (fun h2 => ?_) (fun h2 => ?_)
      · have h2 : aCh M x = true := h2
        obtain ⟨c, hc1, hc2, rfl⟩ := aCh_at hX.1 h2
        generalize hF : stF (aS M) (aLst M) (aDist M) (sN M) (cN M - c) (cN M - 1) (oN M) 0 0 = F
        have e0 : qSteps M (nI c) (nI w) = stV (oN M) (sN M) (nI w) F := by unfold qSteps; rw [if_neg (by rw [h, h1]; decide), if_neg (by rw [h2]; decide), tN_nI (by omega), hF]
        -- the end: all have their channels again
        have fin : ∀ (b : Bool) (a tp : Nat) (o : Nat → Nat) N j6 j7, NS M N o → (b = true → F = some (a, tp, o)) → (b = false → F = none) → Wp E (d + 14) m_Mo_steps 181 [some (vP 60 0), some (vI (nI c)), some (vI (nI w)), some (vI (nI a)), some (vI (nI tp)), some (vI (bI b)), j6, j7] [] N (RQs M (qSteps M (nI c) (nI w))) := by
          intro b a tp o N j6 j7 hN ht hf
          have h18 : N.1 60 0 18 = nI (sN M) := (hN.1.1 60 0 18 rfl (by omega)).trans hn
          have loop : ∀ t, t ≤ sN M → ∀ N', N' = setR N 65 0 0 t (M.1 65 0) → ∀ v, v = nI (allC (oN M) o t) → Wp E (d + 14) m_Mo_steps 187 [some (vP 60 0), some (vI (nI c)), some (vI (nI w)), some (vI (nI a)), some (vI (nI tp)), some (vI (bI b)), some (vI v), some (vI (nI t))] [] N' (RQs M (qSteps M (nI c) (nI w))) := by
            refine loopUp (sN M) ?_ ?_
            · rintro N' rfl v rfl
              have hag : AgR M (setR N 65 0 0 (sN M) (M.1 65 0)) := by
                refine ⟨fun i r k e => ?_, hN.1.2⟩
                by_cases q : i = 65 ∧ r = 0 ∧ 0 ≤ k ∧ k < 0 + sN M
                · obtain ⟨rfl, rfl, q3, q4⟩ := q
                  have := setR_at (M := N) (i := 65) (r := 0) (lo := 0) (n := sN M) (f := M.1 65 0) (k := k) (by omega)
                  rw [Nat.zero_add] at this
                  exact this
                · rw [setR_out q]
                  exact hN.1.1 i r k e (fun z => q ⟨z.1, z.2.1, by omega, by omega⟩)
              have hrr : RRe (setR N 65 0 0 (sN M) (M.1 65 0)) := RRe_o hN.2.2.2.1 rfl
              have h00 : (setR N 65 0 0 (sN M) (M.1 65 0)).1 60 0 0 = nI 0 := hN.2.2.2.2
              refine go ok_Mo_steps [187] 60 ?_
              refine qLe h18 rfl (by omega) (by omega) (fun _ => ?_) (fun q => absurd q (by omega))
              refine brN (fun hb2 => ?_) (fun hb2 => ?_)
              · have e1 : qSteps M (nI c) (nI w) = if nI w = nI 0 then ye (nI a) else if nI w = nI 1 then ye (nI tp) else ye (nI (allC (oN M) o (sN M))) := by rw [e0, ht hb2]; rfl
                refine cNe (by omega) (by omega) (fun w0 => ?_) (fun w0 => ?_)
                · refine cNe (by omega) (by omega) (fun w1 => ?_) (fun w1 => ?_)
                  · refine x_good E _ _ (by omega) (end_ye hag hrr h00 ?_)
                    rw [e1, if_neg (nI_dne (by omega) (by omega) w0), if_neg (nI_dne (by omega) (by omega) w1)]
                  · refine x_good E _ _ (by omega) (end_ye hag hrr h00 ?_)
                    rw [e1, if_neg (nI_dne (by omega) (by omega) w0), if_pos (by rw [w1])]
                · refine x_good E _ _ (by omega) (end_ye hag hrr h00 ?_)
                  rw [e1, if_pos (by rw [w0])]
              · refine x_good E _ _ (by omega) (end_ye hag hrr h00 ?_)
                rw [e0, hf hb2]; rfl
            · rintro t hlt ih N' rfl v rfl
              obtain ⟨w1, w2, w3⟩ := hN.2.1 t hlt
              obtain ⟨w4, w5, w6⟩ := ho t hlt
              have e65 : (setR N 65 0 0 t (M.1 65 0)).1 65 0 t = nI (o t) := (setR_out (fun z => by omega)).trans w1
              have e77 : (setR N 65 0 0 t (M.1 65 0)).1 77 0 t = M.1 65 0 t := hN.2.2.1 t hlt
              refine go ok_Mo_steps [187] 60 ?_
              refine qLe h18 rfl (by omega) (by omega) (fun q => absurd q (by omega)) (fun _ => ?_)
              refine ix t (show _ < 26 by omega) (by rw [nI_s8, Nat.zero_add]) ?_
              refine ix t (show _ < 8 by omega) rfl ?_
              have estep : sI (setR N 65 0 0 t (M.1 65 0)) 65 0 t (M.1 65 0 t) = setR N 65 0 0 (t + 1) (M.1 65 0) := by rw [← setR_step, Nat.zero_add]
              refine qNe e65 (e77.trans w4) (by omega) (by omega) (fun hne => ?_) (fun heq => ?_)
              · refine ix t (show _ < 8 by omega) rfl ?_
                refine ix t (show _ < 26 by omega) (by rw [nI_s8, Nat.zero_add]) ?_
                rw [e77, estep]
                refine nm_r (nI_add _ _) (ih _ rfl _ ?_)
                rw [nI_add]; unfold allC; rw [mvC, decide_eq_false hne]; rfl
              · refine ix t (show _ < 8 by omega) rfl ?_
                refine ix t (show _ < 26 by omega) (by rw [nI_s8, Nat.zero_add]) ?_
                rw [e77, estep]
                refine nm_r (nI_add _ _) (ih _ rfl _ ?_)
                rw [nI_add]; unfold allC; rw [mvC, decide_eq_true heq]; rfl
          refine go ok_Mo_steps [187] 60 ?_
          exact loop 0 (Nat.zero_le _) _ (setR_0 _ _ _ _ _).symm _ rfl
        -- down, channel by channel
        have down : ∀ j k, k + 1 = c + j → k < 10 → ∀ o a tp N j7, NS M N o → tp ≤ 8 → stF (aS M) (aLst M) (aDist M) (sN M) j k o a tp = F → Wp E (d + 14) m_Mo_steps 87 [some (vP 60 0), some (vI (nI c)), some (vI (nI w)), some (vI (nI a)), some (vI (nI tp)), some (vI (nI 1)), some (vI (nI k)), j7] [] N (RQs M (qSteps M (nI c) (nI w))) := by
          intro j
          induction j with
          | zero =>
            intro k hk hk10 o a tp N j7 hN htp hst
            refine go ok_Mo_steps [181] 60 ?_
            refine cLt (by omega) (by omega) (fun _ => ?_) (fun q => absurd q (by omega))
            exact fin true a tp o N _ _ hN (fun _ => hst.symm) (fun q => by cases q)
          | succ j ihj =>
            intro k hk hk10 o a tp N j7 hN htp hst
            refine go ok_Mo_steps [144, 181] 60 ?_
            refine cLt (by omega) (by omega) (fun q => absurd q (by omega)) (fun _ => ?_)
            refine cEq (a := 1) (b := 0) (by omega) (by omega) (fun q => absurd q (by omega)) (fun _ => ?_)
            refine xc (d + 13) ok_Mo_isSqueezed (r_isSqueezed E d N (hN.rw hX.1) hN.2.2.2.1 k (by omega)) (by omega) ?_
            rintro r N' ⟨rfl, q1, q2, q3⟩
            rw [hN.q hn' k] at q3 ⊢
            have hN' := hN.go q1 q2
            cases hz : sqO (aS M) (aLst M) (aDist M) (sN M) o k with
            | none =>
              refine And.intro (fun q => absurd rfl q) (fun _ => ?_)
              have hF2 : F = none := by rw [← hst, stF, hz]
              have hfin : ∀ y j7, Wp E (d + 14) m_Mo_steps 181 [some (vP 60 0), some (vI (nI c)), some (vI (nI w)), some (vI (nI a)), some (vI (nI tp)), some (vI (nI 0)), some (vI y), j7] [] N' (RQs M (qSteps M (nI c) (nI w))) := fun y j7 => fin false a tp o N' _ _ hN' (fun q => by cases q) (fun _ => hF2)
              refine nm_r (nI_m1 (by omega)) ?_
              refine And.intro (fun _ => hfin _ _) (fun _ => ?_)
              exact And.intro (fun _ => hfin _ _) (fun q => absurd rfl q)
            | some z =>
              rw [hz] at q3
              have ecq : cq (bt (N.1 65 0 24)) (oN N) (sN N) = cq (aS M) o (sN M) := by
                rw [hN.s hn', hN.c.2.1]; exact cq_cg (fun t ht => hN.o ht)
              have hle : cq (aS M) o (sN M) z ≤ sN M := mvC_le _ _ _ _
              have h41 : N'.1 60 0 41 = nI (cq (aS M) o (sN M) z) := by rw [q3.1, ecq]; rfl
              have hbd := sqO_bd hz (by omega) (fun t ht => (hN.2.1 t ht).2)
              have h74 : ∀ t, t < sN M → N'.1 74 0 t = nI (bq (aS M) o z t) := by
                intro t ht
                rw [q3.2 z rfl t (by rw [hN.c.2.1]; exact ht)]
                unfold bq
                rw [hN.s hn', hN.o ht]; rfl
              have h18 : N'.1 60 0 18 = nI (sN M) := (hN'.1.1 60 0 18 rfl (by omega)).trans hn
              refine And.intro (fun _ => ?_) (fun q => absurd q (show ¬ nI 1 = nI 0 by decide))
              -- the row is laid in
              have lay : ∀ tp', tp' = max tp (cq (aS M) o (sN M) z) → ∀ t, t ≤ sN M → ∀ L, L = setR N' 65 0 0 t (fun t => nI (bq (aS M) o z t)) → ∀ va, va = nI (a + cq (aS M) o (sN M) z) → Wp E (d + 14) m_Mo_steps 144 [some (vP 60 0), some (vI (nI c)), some (vI (nI w)), some (vI va), some (vI (nI tp')), some (vI (nI 1)), some (vI (nI k)), some (vI (nI t))] [] L (RQs M (qSteps M (nI c) (nI w))) := by
                intro tp' htp'
                refine loopUp (sN M) ?_ ?_
                · rintro L rfl va rfl
                  refine go ok_Mo_steps [87] 60 ?_
                  refine qLe h18 rfl (by omega) (by omega) (fun _ => ?_) (fun q => absurd q (by omega))
                  refine nm_r (nI_m1 (by omega)) ?_
                  refine ihj (k - 1) (by omega) (by omega) (bq (aS M) o z) _ tp' _ _ ?_ (by omega) ?_
                  · refine ⟨⟨fun i r j e1 e2 => ?_, hN'.1.2⟩, fun t ht => ?_, hN'.2.2.1, RRe_o q2 rfl, hN'.2.2.2.2⟩
                    · rw [setR_out (fun z => e2 ⟨z.1, z.2.1, by omega⟩)]
                      exact hN'.1.1 i r j e1 e2
                    · have := setR_at (M := N') (i := 65) (r := 0) (lo := 0) (n := sN M) (f := fun t => nI (bq (aS M) o z t)) (k := t) ht
                      rw [Nat.zero_add] at this
                      exact ⟨this, hbd t ht⟩
                  · rw [← hst, stF, hz, htp']
                · rintro t hlt ih L rfl va rfl
                  refine go ok_Mo_steps [144] 60 ?_
                  refine qLe h18 rfl (by omega) (by omega) (fun q => absurd q (by omega)) (fun _ => ?_)
                  refine ix t (show _ < 8 by omega) rfl ?_
                  refine ix t (show _ < 26 by omega) (by rw [nI_s8, Nat.zero_add]) ?_
                  have e74 : (setR N' 65 0 0 t (fun t => nI (bq (aS M) o z t))).1 74 0 t = nI (bq (aS M) o z t) := h74 t hlt
                  rw [e74]
                  refine nm_r (nI_add _ _) (ih _ ?_ _ rfl)
                  rw [← setR_step, Nat.zero_add]
              refine qLe h41 rfl (by omega) (by omega) (fun hge => ?_) (fun hlt => ?_)
              · refine lay tp (by omega) 0 (Nat.zero_le _) _ (setR_0 _ _ _ _ _).symm _ ?_
                rw [h41, nI_add]
              · have := lay (cq (aS M) o (sN M) z) (by omega) 0 (Nat.zero_le _) _ (setR_0 _ _ _ _ _).symm (nI a + N'.1 60 0 41) (by rw [h41, nI_add])
                rw [← h41] at this
                exact this
        -- aside
        have key : ∀ t, t ≤ sN M → ∀ N, N = setR (M0 M) 77 0 0 t (M.1 65 0) → Wp E (d + 14) m_Mo_steps 43 [some (vP 60 0), some (vI (nI c)), some (vI (nI w)), some (vI (nI t)), none, none, none, none] [] N (RQs M (qSteps M (nI c) (nI w))) := by
          refine loopUp (sN M) ?_ ?_
          · rintro N rfl
            refine go ok_Mo_steps [87] 60 ?_
            refine qLe hn rfl (by omega) (by omega) (fun _ => ?_) (fun q => absurd q (by omega))
            have e17 : (setR (M0 M) 77 0 0 (sN M) (M.1 65 0)).1 60 0 17 - nI 1 = nI (cN M - 1) := by
              show M.1 60 0 17 - nI 1 = _
              rw [hc, nI_m1 (by omega)]
            have hd := fun hNS => down (cN M - c) (cN M - 1) (by omega) (by omega) (oN M) 0 0 (setR (M0 M) 77 0 0 (sN M) (M.1 65 0)) none hNS (by omega) hF
            rw [← e17] at hd
            refine hd ⟨⟨fun i r k e1 e2 => ?_, rfl⟩, ho, fun t ht => ?_, RRe_o hr rfl, rfl⟩
            · rw [setR_out (fun z => by obtain ⟨rfl, rfl, z3, z4⟩ := z; cases e1)]
              exact up3_ne (fun z => by obtain ⟨rfl, rfl, rfl⟩ := z; cases e1)
            · have := setR_at (M := M0 M) (i := 77) (r := 0) (lo := 0) (n := sN M) (f := M.1 65 0) (k := t) ht
              rw [Nat.zero_add] at this
              exact this
          · rintro t hlt ih N rfl
            refine go ok_Mo_steps [43] 60 ?_
            refine qLe hn rfl (by omega) (by omega) (fun q => absurd q (by omega)) (fun _ => ?_)
            refine ix t (show _ < 26 by omega) (by rw [nI_s8, Nat.zero_add]) ?_
            refine ix t (show _ < 8 by omega) rfl ?_
            refine nm_r (nI_add _ _) (ih _ ?_)
            rw [← setR_step, Nat.zero_add]; rfl
        exact key 0 (Nat.zero_le _) _ (setR_0 _ _ _ _ _).symm
      · have h2 : aCh M x = false := h2
        refine x_ref E _ _ (by omega) (end_no 2 (agM0 M) hr rfl ?_)
        unfold qSteps; rw [if_neg (by rw [h, h1]; decide), if_pos h2]
    · have h1 : in3 y 2 = false := h1
      refine x_ref E _ _ (by omega) (end_no 1 (agM0 M) hr rfl ?_)
      unfold qSteps; rw [if_pos (by rw [h, h1]; rfl)]
end R18
