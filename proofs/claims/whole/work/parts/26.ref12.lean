/-! the reference: the clock -/
def scr3 (i k : Nat) : Bool := Nat.beq i 73 || scr2 i k
def Ag3 (M M' : Me) : Prop := (∀ i r k, scr3 i k = false → M'.1 i r k = M.1 i r k) ∧ M'.2 = M.2
theorem scr3_R {i k : Nat} (h : scrR i k = false) : scr3 i k = false := by
  unfold scr3
  rw [scr2_R h, Bool.or_false]
  cases e : Nat.beq i 73 with
  | false => rfl
  | true =>
    have e := Nat.beq_eq.mp e
    subst e
    have h2 : scrR 73 k = true := rfl
    rw [h2] at h; cases h
theorem Ag3.R {M M' : Me} (h : Ag3 M M') : AgR M M' := ⟨fun i r k e => h.1 i r k (scr3_R e), h.2⟩
theorem Ag2.to3 {M M' : Me} (h : Ag2 M M') : Ag3 M M' := ⟨fun i r k e => h.1 i r k (by unfold scr3 at e; simp only [Bool.or_eq_false_iff] at e; exact e.2), h.2⟩
theorem Ag3.tr {M M' M'' : Me} (h : Ag3 M M') (h' : Ag3 M' M'') : Ag3 M M'' := ⟨fun i r k e => (h'.1 i r k e).trans (h.1 i r k e), h'.2.trans h.2⟩
theorem ag3_sI {M : Me} {i r k : Nat} {x : Int32} (h : scr3 i k = true) : Ag3 M (sI M i r k x) := ⟨fun a b c e => up3_ne (fun z => by obtain ⟨rfl, rfl, rfl⟩ := z; rw [h] at e; cases e), rfl⟩
def knV (b : Bool) : Int32 := bif b then nI 1 else nI 2
def KN (fit : Int32 → Bool) (N : Me) : Prop := ∀ k, k < 256 → N.1 73 0 k = nI 0 ∨ N.1 73 0 k = knV (fit (nI k))
abbrev C4 : Type := Int32 × Int32 × Int32 × (Nat → Int32)
def upI (f : Nat → Int32) (k : Nat) (v : Int32) : Nat → Int32 := fun j => if j = k then v else f j
def rStep (fit : Int32 → Bool) (w : Nat → Int32) (p : Int32) (t : Nat) (z : C4) : C4 := bif !bt z.1 t then z else bif !fit (z.2.1 ||| b1 t) then (z.1 &&& (b1 t ^^^ -(nI 1)), z.2.1, z.2.2.1 ||| b1 t, upI z.2.2.2 t p) else bif decide (p < w t) then (z.1 &&& (b1 t ^^^ -(nI 1)), z.2.1 ||| b1 t, z.2.2.1, z.2.2.2) else z
def rRnd (fit : Int32 → Bool) (w : Nat → Int32) (p : Int32) : Nat → C4 → C4
  | 0, z => z
  | n + 1, z => rStep fit w p n (rRnd fit w p n z)
def rRun (fit : Int32 → Bool) (w : Nat → Int32) (n st : Nat) : Nat → Nat → C4 → Nat → Nat × C4
  | 0, _, z, r => (r, z)
  | k + 1, p, z, r => bif decide ((rRnd fit w (nI p) n z).1 = nI 0) || decide (p = 0) then (r + 1, rRnd fit w (nI p) n z) else rRun fit w n st k (p - st) (rRnd fit w (nI p) n z) (r + 1)
def z0 (air : Int32) : C4 := (air, nI 0, nI 0, fun _ => -(nI 2))
/-- the clock's end -/
def aClk (M : Me) (m p st : Nat) : Nat × C4 := rRun (fun x => aFit M x m) (fun t => M.1 65 0 (8 + t)) (sN M) st (p + 1) p (z0 (M.1 65 0 24)) 0
def clP (c : Nat × C4) (t : Nat) : Int32 := bif bt c.2.1 t then nI 0 else c.2.2.2.2 t
theorem or_b1 {k t : Nat} (hk : k < 256) (ht : t < 8) : ∃ j, j < 256 ∧ nI k ||| b1 t = nI j := by
  refine ⟨k ||| 2 ^ t, Nat.or_lt_two_pow (n := 8) hk (Nat.pow_lt_pow_right (by omega) ht), ?_⟩
  rw [b1_nI t (by omega)]
  exact b_ext fun i hi => by rw [b_or, b_nI _ hi, b_nI _ hi, b_nI _ hi, Nat.testBit_or]
def isSm (x : Int32) : Prop := ∃ k, k < 256 ∧ x = nI k
section R13
variable (E : EV) (d : Nat) (M : Me)
theorem r_isKnown (hR : RW M) (hr : RRe M) (m k : Nat) (hm : m ≤ 10) (hk : k < 256) (fit : Int32 → Bool) (hfit : fit (nI k) = aFit M (nI k) m) (hK : KN fit M) : Mt E (d + 14) m_Mo_isKnown [vP 60 0, vI (nI k), vI (nI m)] M (fun r M' => r = some (vI (bI (fit (nI k)))) ∧ Ag3 M M' ∧ RRe M' ∧ KN fit M') := by
  refine Mt.go ok_Mo_isKnown [29] 60 rfl ?_
  have key : ∀ N, Ag3 M N → RRe N → KN fit N → N.1 73 0 k = knV (fit (nI k)) → Wp E (d + 14) m_Mo_isKnown 29 [some (vP 60 0), some (vI (nI k)), some (vI (nI m))] [] N (fun r M' => r = some (vI (bI (fit (nI k)))) ∧ Ag3 M M' ∧ RRe M' ∧ KN fit M') := by
    intro N a1 hrN hKN hv
    refine go ok_Mo_isKnown [] 60 ?_
    refine ix k (show _ < 256 by omega) rfl ?_
    rw [hv]
    cases hf : fit (nI k)
    · refine cNe (a := 2) (b := 1) (by omega) (by omega) (fun _ => ?_) (fun q => absurd q (by omega))
      exact And.intro (Or.inl rfl) ⟨rfl, a1, hrN, hKN⟩
    · refine cNe (a := 1) (b := 1) (by omega) (by omega) (fun q => absurd rfl q) (fun _ => ?_)
      exact And.intro (Or.inr rfl) ⟨rfl, a1, hrN, hKN⟩
  refine ix k (show _ < 256 by omega) rfl ?_
  rcases hK k hk with h0 | h1
  · refine qNe (a := 0) (b := 0) h0 rfl (by omega) (by omega) (fun q => absurd rfl q) (fun _ => ?_)
    refine xc (d + 13) ok_Mo_isFit (r_isFit E d M hR hr (nI k) m hm) (by omega) ?_
    rintro r M' ⟨rfl, b1, b2, b3⟩
    rw [← hfit]
    have hup : ∀ v, v = knV (fit (nI k)) → Ag3 M (sI M' 73 0 k v) ∧ RRe (sI M' 73 0 k v) ∧ KN fit (sI M' 73 0 k v) ∧ (sI M' 73 0 k v).1 73 0 k = knV (fit (nI k)) := by
      rintro v rfl
      refine ⟨b1.to3.tr (ag3_sI rfl), RRe_o b2 rfl, fun j hj => ?_, up3_same⟩
      have e2 : (sI M' 73 0 k (knV (fit (nI k)))).1 73 0 j = if j = k then knV (fit (nI k)) else M'.1 73 0 j := up3_at j
      rw [e2]
      by_cases e : j = k
      · subst e; rw [if_pos rfl]; exact Or.inr rfl
      · rw [if_neg e, b1.1 73 0 j rfl]; exact hK j hj
    refine brF (fun hf => ?_) (fun hf => ?_)
    · refine ix k (show _ < 256 by omega) rfl ?_
      obtain ⟨c1, c2, c3, c4⟩ := hup (nI 2) (by rw [hf]; rfl)
      exact key _ c1 c2 c3 c4
    · refine ix k (show _ < 256 by omega) rfl ?_
      obtain ⟨c1, c2, c3, c4⟩ := hup (nI 1) (by rw [hf]; rfl)
      exact key _ c1 c2 c3 c4
  · have hne : ¬ M.1 73 0 k = nI 0 := by
      rw [h1]
      cases fit (nI k) <;> decide
    refine And.intro (fun _ => ?_) (fun q => absurd q hne)
    exact key M ⟨fun _ _ _ _ => rfl, rfl⟩ hr hK h1
/-- the loop's state -/
def CL (fit : Int32 → Bool) (N : Me) (z : C4) (r : Nat) : Prop := AgR M N ∧ RRe N ∧ KN fit N ∧ N.1 60 0 0 = M.1 60 0 0 ∧ N.1 60 0 36 = z.2.1 ∧ N.1 60 0 37 = z.2.2.1 ∧ (∀ t, t < 8 → N.1 72 0 t = z.2.2.2 t) ∧ N.1 60 0 35 = nI r ∧ isSm z.2.1
def CE (M' : Me) (c : Nat × C4) : Prop := AgR M M' ∧ RRe M' ∧ M'.1 60 0 0 = M.1 60 0 0 ∧ M'.1 60 0 35 = nI c.1 ∧ M'.1 60 0 36 = c.2.2.1 ∧ M'.1 60 0 37 = c.2.2.2.1 ∧ M'.1 60 0 38 = c.2.1 ∧ ∀ t, t < sN M → M'.1 72 0 t = clP c t
theorem r_runs (hR : RW M) (hr : RRe M) (m p st : Nat) (hm : m ≤ 10) (hp : p ≤ 999) (hst : 1 ≤ st) (hst' : st ≤ 999) : Mt E (d + 15) m_Mo_runs [vP 60 0, vI (nI m), vI (nI p), vI (nI st)] M (fun r M' => r = none ∧ CE M M' (aClk M m p st)) := by
  obtain ⟨⟨hc, hc'⟩, ⟨hn, hn'⟩, ⟨hb, hb'⟩, ho⟩ := id hR
  generalize hfit : (fun x => aFit M x m) = fit
  generalize hw : (fun t => M.1 65 0 (8 + t)) = w
  have hres : aClk M m p st = rRun fit w (sN M) st (p + 1) p (z0 (M.1 65 0 24)) 0 := by unfold aClk; rw [hfit, hw]
  refine Mt.go ok_Mo_runs [3] 60 rfl ?_
  -- the last loop: those sold are paid 0
  have last : ∀ (z : C4) (r : Nat) (j5 j6 : Int32), aClk M m p st = (r, z) → ∀ t, t ≤ sN M → ∀ N, (AgR M N ∧ RRe N ∧ N.1 60 0 0 = M.1 60 0 0 ∧ N.1 60 0 35 = nI r ∧ N.1 60 0 36 = z.2.1 ∧ N.1 60 0 37 = z.2.2.1 ∧ N.1 60 0 38 = z.1) → (∀ s, s < 8 → N.1 72 0 s = bif bt z.1 s && decide (s < t) then nI 0 else z.2.2.2 s) → Wp E (d + 15) m_Mo_runs 268 [some (vP 60 0), some (vI (nI m)), some (vI (nI p)), some (vI (nI st)), some (vI z.1), some (vI j5), some (vI j6), some (vI (nI t))] [] N (fun r M' => r = none ∧ CE M M' (aClk M m p st)) := by
    intro z r j5 j6 hz
    refine loopUp (sN M) ?_ ?_
    · rintro N ⟨a1, a2, a3, a4, a5, a6, a7⟩ hpd
      refine go ok_Mo_runs [268] 60 ?_
      refine qLe ((a1.1 60 0 18 rfl).trans hn) rfl (by omega) (by omega) (fun _ => ?_) (fun q => absurd q (by omega))
      refine And.intro rfl ?_
      rw [hz]
      refine ⟨a1, a2, a3, a4, a5, a6, a7, fun t ht => ?_⟩
      rw [hpd t (by omega), decide_eq_true ht, Bool.and_true]
      rfl
    · rintro t hlt ih N ⟨a1, a2, a3, a4, a5, a6, a7⟩ hpd
      refine go ok_Mo_runs [268] 60 ?_
      refine qLe ((a1.1 60 0 18 rfl).trans hn) rfl (by omega) (by omega) (fun q => absurd q (by omega)) (fun _ => ?_)
      refine xq d ok_Mo_has (r_has E d _ _ t (by omega)) (by omega) ?_
      rw [a7]
      refine brF (fun h => ?_) (fun h => ?_)
      · refine nm_r (nI_add _ _) (ih N ⟨a1, a2, a3, a4, a5, a6, a7⟩ (fun s hs => ?_))
        rw [hpd s hs]
        by_cases e : s = t
        · subst e; rw [h]; rfl
        · have : decide (s < t) = decide (s < t + 1) := decide_eq_decide.mpr (by omega)
          rw [this]
      · refine ix t (show _ < 8 by omega) rfl ?_
        refine nm_r (nI_add _ _) (ih _ ⟨a1.tr (ag_sI rfl), RRe_o a2 rfl, a3, a4, a5, a6, a7⟩ (fun s hs => ?_))
        show up3 N.1 72 0 t (nI 0) 72 0 s = _
        rw [up3_at]
        by_cases e : s = t
        · subst e; rw [if_pos rfl, h, decide_eq_true (by omega)]; rfl
        · rw [if_neg e, hpd s hs]
          have : decide (s < t) = decide (s < t + 1) := decide_eq_decide.mpr (by omega)
          rw [this]
  -- one round
  have rnd : ∀ (pr : Nat), pr ≤ 999 → ∀ (zb : C4) (r : Nat) (j6 : Int32), (∀ N z, CL M fit N z r → z = rRnd fit w (nI pr) (sN M) zb → ∀ j7, Wp E (d + 15) m_Mo_runs 223 [some (vP 60 0), some (vI (nI m)), some (vI (nI p)), some (vI (nI st)), some (vI z.1), some (vI (nI pr)), some (vI j6), j7] [] N (fun r M' => r = none ∧ CE M M' (aClk M m p st))) → ∀ t, t ≤ sN M → ∀ N z, CL M fit N z r → z = rRnd fit w (nI pr) t zb → Wp E (d + 15) m_Mo_runs 103 [some (vP 60 0), some (vI (nI m)), some (vI (nI p)), some (vI (nI st)), some (vI z.1), some (vI (nI pr)), some (vI j6), some (vI (nI t))] [] N (fun r M' => r = none ∧ CE M M' (aClk M m p st)) := by
    intro pr hpr zb r j6 hk
    refine loopUp (sN M) ?_ ?_
    · intro N z hN hz
      refine go ok_Mo_runs [223] 60 ?_
      refine qLe ((hN.1.1 60 0 18 rfl).trans hn) rfl (by omega) (by omega) (fun _ => ?_) (fun q => absurd q (by omega))
      exact hk N z hN hz _
    · intro t hlt ih N z hN hz
      obtain ⟨a1, a2, a3, a4, a5, a6, a7, a8, k, hk256, hks⟩ := id hN
      have hstep : rRnd fit w (nI pr) (t + 1) zb = rStep fit w (nI pr) t z := by rw [rRnd, ← hz]
      refine go ok_Mo_runs [103, 217] 60 ?_
      refine qLe ((a1.1 60 0 18 rfl).trans hn) rfl (by omega) (by omega) (fun q => absurd q (by omega)) (fun _ => ?_)
      have nxt : ∀ N' z', CL M fit N' z' r → z' = rStep fit w (nI pr) t z → Wp E (d + 15) m_Mo_runs 217 [some (vP 60 0), some (vI (nI m)), some (vI (nI p)), some (vI (nI st)), some (vI z'.1), some (vI (nI pr)), some (vI j6), some (vI (nI t))] [] N' (fun r M' => r = none ∧ CE M M' (aClk M m p st)) := by
        intro N' z' hN' hz'
        refine go ok_Mo_runs [103] 60 ?_
        refine nm_r (nI_add _ _) (ih N' z' hN' ?_)
        rw [hstep, hz']
      refine xq d ok_Mo_has (r_has E d _ _ t (by omega)) (by omega) ?_
      refine brN (fun h => ?_) (fun h => ?_)
      · obtain ⟨j, hj, hor⟩ := or_b1 (t := t) hk256 (by omega)
        have e36 : N.1 60 0 36 ||| b1 t = nI j := by rw [a5, hks]; exact hor
        have hfj : fit (nI j) = aFit N (nI j) m := by rw [aFit_ag a1, ← hfit]
        have hzj : fit (z.2.1 ||| b1 t) = fit (nI j) := by rw [hks, hor]
        refine xc (d + 14) ok_Mo_isKnown (by
          show Mt E (d + 14) m_Mo_isKnown [vP 60 0, vI (N.1 60 0 36 ||| b1 t), vI (nI m)] N _
          rw [e36]; exact r_isKnown E d N (agRW a1 hR) a2 m j hm hj fit hfj a3) (by omega) ?_
        rintro r' N' ⟨rfl, b1', b2', b3'⟩
        have hN' : CL M fit N' z r := ⟨a1.tr b1'.R, b2', b3', (b1'.1 60 0 0 rfl).trans a4, (b1'.1 60 0 36 rfl).trans a5, (b1'.1 60 0 37 rfl).trans a6, fun s hs => (b1'.1 72 0 s rfl).trans (a7 s hs), (b1'.1 60 0 35 rfl).trans a8, k, hk256, hks⟩
        refine brN (fun h2 => ?_) (fun h2 => ?_)
        · refine ix (8 + t) (show _ < 26 by omega) (nI_s8 8 t) ?_
          have ew : N'.1 65 0 (8 + t) = w t := by rw [ag65 hN'.1, ← hw]
          rw [ew]
          refine And.intro (fun q => ?_) (fun q => ?_)
          · refine nxt N' z hN' ?_
            unfold rStep
            rw [h, hzj, h2, decide_eq_false (Int32.not_lt.mpr q)]; rfl
          · refine nxt _ (z.1 &&& (b1 t ^^^ -(nI 1)), z.2.1 ||| b1 t, z.2.2.1, z.2.2.2) ?_ ?_
            · obtain ⟨q1, q2, q3, q4, q5, q6, q7, q8, q9⟩ := hN'
              refine ⟨q1.tr (ag_sI rfl), RRe_o q2 rfl, q3, q4, ?_, q6, q7, q8, j, hj, ?_⟩
              · show N'.1 60 0 36 ||| b1 t = _
                rw [q5]
              · rw [hks]; exact hor
            · unfold rStep
              rw [h, hzj, h2, decide_eq_true (Int32.not_le.mp q)]; rfl
        · refine ix t (show _ < 8 by omega) rfl ?_
          refine nxt _ (z.1 &&& (b1 t ^^^ -(nI 1)), z.2.1, z.2.2.1 ||| b1 t, upI z.2.2.2 t (nI pr)) ?_ ?_
          · obtain ⟨q1, q2, q3, q4, q5, q6, q7, q8, q9⟩ := hN'
            refine ⟨(q1.tr (ag_sI rfl)).tr (ag_sI rfl), RRe_o q2 rfl, q3, q4, q5, ?_, fun s hs => ?_, q8, q9⟩
            · show N'.1 60 0 37 ||| b1 t = _
              rw [q6]
            · show up3 _ 72 0 t (nI pr) 72 0 s = upI z.2.2.2 t (nI pr) s
              rw [up3_at]
              unfold upI
              by_cases e : s = t
              · rw [if_pos e, if_pos e]
              · rw [if_neg e, if_neg e]; exact q7 s hs
          · unfold rStep
            rw [h, hzj, h2]; rfl
      · refine nxt N z hN ?_
        unfold rStep
        rw [h]; rfl
  -- the rounds
  have rounds : ∀ (fuel pr : Nat), pr < fuel → pr ≤ 999 → ∀ N z r j7, CL M fit N z r → rRun fit w (sN M) st fuel pr z r = aClk M m p st → Wp E (d + 15) m_Mo_runs 85 [some (vP 60 0), some (vI (nI m)), some (vI (nI p)), some (vI (nI st)), some (vI z.1), some (vI (nI pr)), some (vI (nI 0)), j7] [] N (fun r M' => r = none ∧ CE M M' (aClk M m p st)) := by
    intro fuel
    induction fuel with
    | zero => intro pr h; exact absurd h (by omega)
    | succ fuel ihf =>
      intro pr hpf hpr N z r j7 hN hrun
      obtain ⟨a1, a2, a3, a4, a5, a6, a7, a8, a9⟩ := id hN
      refine go ok_Mo_runs [103] 60 ?_
      refine cNe (a := 0) (b := 0) (by omega) (by omega) (fun q => absurd rfl q) (fun _ => ?_)
      refine rnd pr hpr z (r + 1) _ ?_ 0 (Nat.zero_le _) _ z ?_ rfl
      · intro N' z' hN' hz' j7'
        rw [rRun, ← hz'] at hrun
        obtain ⟨q1, q2, q3, q4, q5, q6, q7, q8, q9⟩ := id hN'
        have hend : (decide (z'.1 = nI 0) || decide (pr = 0)) = true → ∀ v j7'', Wp E (d + 15) m_Mo_runs 85 [some (vP 60 0), some (vI (nI m)), some (vI (nI p)), some (vI (nI st)), some (vI z'.1), some (vI v), some (vI (nI 1)), j7''] [] N' (fun r M' => r = none ∧ CE M M' (aClk M m p st)) := by
          intro he v j7''
          rw [he, cond_true] at hrun
          refine go ok_Mo_runs [268] 60 ?_
          refine cNe (a := 1) (b := 0) (by omega) (by omega) (fun _ => ?_) (fun q => absurd q (by omega))
          refine last z' (r + 1) _ _ hrun.symm 0 (Nat.zero_le _) _ ⟨q1.tr (ag_sI rfl), RRe_o q2 rfl, q4, q8, q5, q6, rfl⟩ (fun s hs => ?_)
          rw [decide_eq_false (by omega), Bool.and_false]
          exact q7 s hs
        have hgo : (decide (z'.1 = nI 0) || decide (pr = 0)) = false → ∀ v j7'', v = nI (pr - st) → Wp E (d + 15) m_Mo_runs 85 [some (vP 60 0), some (vI (nI m)), some (vI (nI p)), some (vI (nI st)), some (vI z'.1), some (vI v), some (vI (nI 0)), j7''] [] N' (fun r M' => r = none ∧ CE M M' (aClk M m p st)) := by
          rintro he v j7'' rfl
          rw [he, cond_false] at hrun
          simp only [Bool.or_eq_false_iff, decide_eq_false_iff_not] at he
          exact ihf (pr - st) (by omega) (by omega) N' z' (r + 1) j7'' hN' hrun
        refine go ok_Mo_runs [85] 60 ?_
        refine And.intro (fun hl => ?_) (fun hl => ?_)
        · have he : (decide (z'.1 = nI 0) || decide (pr = 0)) = true := by rw [decide_eq_true hl]; rfl
          exact cLe (by omega) (by omega) (fun _ => hend he _ _) (fun _ => hend he _ _)
        · refine cNe (by omega) (by omega) (fun hp0 => ?_) (fun hp0 => ?_)
          · have he : (decide (z'.1 = nI 0) || decide (pr = 0)) = false := by rw [decide_eq_false hl, decide_eq_false hp0]; rfl
            refine cLe (by omega) (by omega) (fun hle => hgo he _ _ ?_) (fun hgt => hgo he _ _ ?_)
            · rw [show pr - st = 0 by omega]
            · rw [pk_sub (by omega)]
          · have he : (decide (z'.1 = nI 0) || decide (pr = 0)) = true := by rw [decide_eq_true hp0, Bool.or_true]
            exact cLe (by omega) (by omega) (fun _ => hend he _ _) (fun _ => hend he _ _)
      · refine ⟨a1.tr (ag_sI rfl), RRe_o a2 rfl, a3, a4, a5, a6, a7, ?_, a9⟩
        show N.1 60 0 35 + nI 1 = _
        rw [a8, nI_add]
  -- paid is -2 at first
  have first : ∀ t, t ≤ 8 → ∀ N j7, (AgR M N ∧ RRe N ∧ KN fit N ∧ N.1 60 0 0 = M.1 60 0 0 ∧ N.1 60 0 36 = nI 0 ∧ N.1 60 0 37 = nI 0 ∧ N.1 60 0 35 = nI 0) → (∀ s, s < t → N.1 72 0 s = -(nI 2)) → Wp E (d + 15) m_Mo_runs 60 [some (vP 60 0), some (vI (nI m)), some (vI (nI p)), some (vI (nI st)), some (vI (M.1 65 0 24)), some (vI (nI p)), some (vI (nI t)), j7] [] N (fun r M' => r = none ∧ CE M M' (aClk M m p st)) := by
    refine loopUp 8 ?_ ?_
    · rintro N j7 ⟨a1, a2, a3, a4, a5, a6, a7⟩ hpd
      refine go ok_Mo_runs [85] 60 ?_
      refine cLe (by omega) (by omega) (fun _ => ?_) (fun q => absurd q (by omega))
      refine rounds (p + 1) p (by omega) hp N (z0 (M.1 65 0 24)) 0 _ ⟨a1, a2, a3, a4, a5, a6, fun t ht => hpd t ht, a7, 0, by omega, rfl⟩ hres.symm
    · rintro t hlt ih N j7 ⟨a1, a2, a3, a4, a5, a6, a7⟩ hpd
      refine go ok_Mo_runs [60] 60 ?_
      refine cLe (by omega) (by omega) (fun q => absurd q (by omega)) (fun _ => ?_)
      refine ix t (show _ < 8 by omega) rfl ?_
      refine nm_r (nI_add _ _) (ih _ _ ⟨a1.tr (ag_sI rfl), RRe_o a2 rfl, a3, a4, a5, a6, a7⟩ (fun s hs => ?_))
      show up3 N.1 72 0 t _ 72 0 s = _
      rw [up3_at]
      by_cases e : s = t
      · rw [if_pos e]
      · rw [if_neg e]; exact hpd s (by omega)
  -- nothing is known at first
  have zero : ∀ k, k ≤ 256 → ∀ N, AgR M N → RRe N → N.1 60 0 0 = M.1 60 0 0 → (∀ j, j < k → N.1 73 0 j = nI 0) → Wp E (d + 15) m_Mo_runs 3 [some (vP 60 0), some (vI (nI m)), some (vI (nI p)), some (vI (nI st)), some (vI (nI k)), none, none, none] [] N (fun r M' => r = none ∧ CE M M' (aClk M m p st)) := by
    refine loopUp 256 ?_ ?_
    · intro N a1 a2 a3 hkn
      refine go ok_Mo_runs [60] 60 ?_
      refine cLe (by omega) (by omega) (fun _ => ?_) (fun q => absurd q (by omega))
      refine ix 24 (show _ < 26 by omega) rfl ?_
      rw [show N.1 65 0 24 = M.1 65 0 24 by rw [ag65 a1]]
      refine first 0 (Nat.zero_le _) _ _ ⟨(((a1.tr (ag_sI rfl)).tr (ag_sI rfl)).tr (ag_sI rfl)).tr (ag_sI rfl), RRe_o a2 rfl, fun j hj => Or.inl (hkn j hj), a3, rfl, rfl, rfl⟩ (fun s hs => absurd hs (by omega))
    · intro k hlt ih N a1 a2 a3 hkn
      refine go ok_Mo_runs [3] 60 ?_
      refine cLe (by omega) (by omega) (fun q => absurd q (by omega)) (fun _ => ?_)
      refine ix k (show _ < 256 by omega) rfl ?_
      refine nm_r (nI_add _ _) (ih _ (a1.tr (ag_sI rfl)) (RRe_o a2 rfl) a3 (fun j hj => ?_))
      show up3 N.1 73 0 k _ 73 0 j = _
      rw [up3_at]
      by_cases e : j = k
      · rw [if_pos e]
      · rw [if_neg e]; exact hkn j (by omega)
  exact zero 0 (Nat.zero_le _) M (AgR.rf M) hr rfl (fun j hj => absurd hj (by omega))
end R13
