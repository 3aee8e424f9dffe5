/-! the reference: whom to buy, proofs -/
def aiN (M : Me) : Nat := (M.1 65 0 24).toNatClampNeg
def RB (M : Me) : Prop := M.1 65 0 24 = nI (aiN M) ∧ aiN M < 2 ^ sN M
theorem agAi {M M' : Me} (h : AgR M M') : aiN M' = aiN M := by unfold aiN; rw [ag65 h]
theorem agRB {M M' : Me} (h : AgR M M') (hB : RB M) : RB M' := by unfold RB at hB ⊢; rw [agAi h, agS h, ag65 h]; exact hB
def subB (k : Nat) (x : Int32) : Bool := decide (nI k &&& (x ^^^ -(nI 1)) = nI 0)
def oI : Option Nat → Int32
  | none => -(nI 1)
  | some b => nI b
theorem nI_ne_m {b k : Nat} (h : b < 2 ^ 31) (hk0 : 0 < k) (hk : k < 2 ^ 31) : ¬ nI b = -(nI k) := by
  intro e
  have h1 := congrArg Int32.toInt e
  rw [nI_toInt h, sb_negT hk] at h1
  omega
def chp (sub fit : Nat → Bool) (w : Nat → Int32) : Nat → Option Nat
  | 0 => none
  | k + 1 => match chp sub fit w k with
    | none => bif sub k && fit k then some k else none
    | some b => bif sub k && (decide (w k < w b) && fit k) then some k else some b
theorem chp_lt {sub fit : Nat → Bool} {w : Nat → Int32} : ∀ (n b : Nat), chp sub fit w n = some b → b < n
  | 0, b, h => by cases h
  | n + 1, b, h => by
    rw [chp] at h
    cases hc : chp sub fit w n with
    | none =>
      rw [hc] at h
      dsimp only at h
      cases e : (sub n && fit n)
      · rw [e] at h; cases h
      · rw [e] at h; cases h; omega
    | some b' =>
      rw [hc] at h
      dsimp only at h
      have := chp_lt n b' hc
      cases e : (sub n && (decide (w n < w b') && fit n))
      · rw [e] at h; cases h; omega
      · rw [e] at h; cases h; omega
/-- a set of stations is bought: what is left fits -/
def lefts (M : Me) (m k : Nat) : Bool := aFit M (M.1 65 0 24 &&& (nI k ^^^ -(nI 1))) m
def wOf (M : Me) (k : Nat) : Int32 := aWr (M.1 65 0) (nI k) (sN M)
def aChp (M : Me) (m : Nat) : Option Nat := chp (fun k => subB k (M.1 65 0 24)) (lefts M m) (wOf M) (aiN M + 1)
def aChpW (M : Me) (m s : Nat) : Option Nat := chp (fun k => subB k (M.1 65 0 24) && !bt (nI k) s) (lefts M m) (wOf M) (aiN M + 1)
def qCheap (M : Me) (x y : Int32) : AT := if (hT M && in3 y 1) = false then no 1 else if aCh M x = false then no 2 else if y = nI 0 then ye (oI (aChp M (tN x))) else ye (aWr (M.1 65 0) (oI (aChp M (tN x))) (sN M))
def qDue (M : Me) (x y : Int32) : AT := if aSt M y = false then no 1 else if aCh M x = false then no 2 else if bt (oI (aChp M (tN x))) (tN y) = false then ye (-(nI 2)) else match aChpW M (tN x) (tN y) with
  | none => no 6
  | some b => ye (wOf M b - aWr (M.1 65 0) (oI (aChp M (tN x)) &&& (b1 (tN y) ^^^ -(nI 1))) (sN M))
theorem lefts_ag {M M' : Me} (h : AgR M M') (m : Nat) : lefts M' m = lefts M m := by funext k; unfold lefts; rw [aFit_ag h, ag65 h]
theorem wOf_ag {M M' : Me} (h : AgR M M') : wOf M' = wOf M := by funext k; unfold wOf; rw [agS h, ag65 h]
theorem pow_le8 {n : Nat} (h : n ≤ 8) : 2 ^ n ≤ 256 := pw8 h
section R11
variable (E : EV) (d : Nat) (M : Me)
theorem r_cheapestOf (hR : RW M) (hB : RB M) (hr : RRe M) (m : Nat) (hm : m ≤ 10) : Mt E (d + 14) m_Mo_cheapestOf [vP 60 0, vI (nI m)] M (fun r M' => r = some (vI (oI (aChp M m))) ∧ Ag2 M M' ∧ RRe M') := by
  obtain ⟨hb1, hb2⟩ := hB
  have hn := hR.2.1.2
  have hp := pow_le8 hn
  refine Mt.go ok_Mo_cheapestOf [13] 60 rfl ?_
  refine ix 24 (show _ < 26 by omega) rfl ?_
  generalize hcf : chp (fun k => subB k (M.1 65 0 24)) (lefts M m) (wOf M) = cf
  have hres : aChp M m = cf (aiN M + 1) := by unfold aChp; rw [hcf]
  have hstep : ∀ k, cf (k + 1) = match cf k with
      | none => bif subB k (M.1 65 0 24) && lefts M m k then some k else none
      | some b => bif subB k (M.1 65 0 24) && (decide (wOf M k < wOf M b) && lefts M m k) then some k else some b := by
    intro k; rw [← hcf]; rfl
  have hlt : ∀ n b, cf n = some b → b < n := by intro n b h; rw [← hcf] at h; exact chp_lt n b h
  have key : ∀ k, k ≤ aiN M + 1 → ∀ N x, Ag2 M N → RRe N → x = oI (cf k) → Wp E (d + 14) m_Mo_cheapestOf 13 [some (vP 60 0), some (vI (nI m)), some (vI x), some (vI (M.1 65 0 24)), some (vI (nI k))] [] N (fun r M' => r = some (vI (oI (aChp M m))) ∧ Ag2 M M' ∧ RRe M') := by
    refine loopUp (aiN M + 1) ?_ ?_
    · intro N x a1 hrN hx
      refine go ok_Mo_cheapestOf [13] 60 ?_
      refine qLt hb1 rfl (by omega) (by omega) (fun _ => And.intro (by rw [hx, hres]) ⟨a1, hrN⟩) (fun q => absurd q (by omega))
    · intro k hk ih N x a1 hrN hx
      have aR := a1.R
      have hwN : ∀ j, Mt E (d + 1) m_Mo_worthOf [vP 60 0, vI j] N (RP (vI (aWr (M.1 65 0) j (sN M))) N) := fun j => by
        have := r_worthOf E d N (agRW aR hR) j
        rw [ag65 aR, agS aR] at this
        exact this
      have hfN := r_isFit E d N (agRW aR hR) hrN (M.1 65 0 24 &&& (nI k ^^^ -(nI 1))) m hm
      rw [aFit_ag aR] at hfN
      refine go ok_Mo_cheapestOf [13, 47] 60 ?_
      refine qLt hb1 rfl (by omega) (by omega) (fun q => absurd q (by omega)) (fun _ => ?_)
      -- the part from 47 on: it fits, or not
      have part : (∀ v, (v = bif lefts M m k then nI k else x) → v = oI (cf (k + 1))) → Wp E (d + 14) m_Mo_cheapestOf 47 [some (vP 60 0), some (vI (nI m)), some (vI x), some (vI (M.1 65 0 24)), some (vI (nI k))] [] N (fun r M' => r = some (vI (oI (aChp M m))) ∧ Ag2 M M' ∧ RRe M') := by
        intro hv
        refine go ok_Mo_cheapestOf [13] 60 ?_
        refine xc (d + 13) ok_Mo_isFit hfN (by omega) ?_
        rintro r M' ⟨rfl, b1, b2, b3⟩
        refine brN (fun h => ?_) (fun h => ?_)
        · have h : lefts M m k = true := h
          refine nm_r (nI_add _ _) (ih M' _ (a1.tr b1) b2 (hv _ ?_))
          rw [h]; rfl
        · have h : lefts M m k = false := h
          refine nm_r (nI_add _ _) (ih M' _ (a1.tr b1) b2 (hv _ ?_))
          rw [h]; rfl
      refine And.intro (fun hs => ?_) (fun hs => ?_)
      · have hs : subB k (M.1 65 0 24) = false := decide_eq_false hs
        refine nm_r (nI_add _ _) (ih N _ a1 hrN ?_)
        rw [hx, hstep k, hs]
        cases cf k <;> rfl
      · have hs : subB k (M.1 65 0 24) = true := decide_eq_true hs
        cases hck : cf k with
        | none =>
          rw [hck] at hx
          refine And.intro (fun _ => ?_) (fun q => absurd hx q)
          refine part ?_
          rintro v rfl
          rw [hstep k, hck, hs, hx]
          cases lefts M m k <;> rfl
        | some b =>
          rw [hck] at hx
          have hbk := hlt k b hck
          have hx : x = nI b := hx
          refine And.intro (fun q => absurd (hx ▸ q) (nI_ne_m (by omega) (by omega) (by omega))) (fun _ => ?_)
          refine xq (d + 1) ok_Mo_worthOf (hwN _) (by omega) ?_
          refine xq (d + 1) ok_Mo_worthOf (hwN _) (by omega) ?_
          subst hx
          refine And.intro (fun q => ?_) (fun q => ?_)
          · have q : wOf M b ≤ wOf M k := q
            refine nm_r (nI_add _ _) (ih N _ a1 hrN ?_)
            rw [hstep k, hck, hs]; dsimp only; rw [decide_eq_false (Int32.not_lt.mpr q)]; rfl
          · have q : ¬ wOf M b ≤ wOf M k := q
            refine part ?_
            rintro v rfl
            rw [hstep k, hck, hs]; dsimp only; rw [decide_eq_true (Int32.not_le.mp q)]
            cases lefts M m k <;> rfl
  refine key 0 (Nat.zero_le _) M _ (Ag2.rf M) hr ?_
  rw [← hcf]; rfl
theorem r_cheapest (hX : RX M) (hB : RB M) (hr : RRe M) (x y : Int32) : Mt E (d + 15) m_Mo_cheapest [vP 60 0, vI x, vI y] M (RQs M (qCheap M x y)) := by
  have hX0 : RX (M0 M) := hX
  have hn := hX.1.2.1.2
  refine Mt.go ok_Mo_cheapest [] 60 rfl ?_
  refine qF hX.2 (fun h => ?_) (fun h => ?_)
  · refine x_ref E _ _ (by omega) (end_no 1 (agM0 M) hr rfl ?_)
    unfold qCheap; rw [if_pos (by rw [h]; rfl)]
  · refine xq d ok_Mo_in (r_in E d _ _ _ _) (by omega) ?_
    refine brN (fun h1 => ?_) (fun h1 => ?_)
    · have h1 : in3 y 1 = true := h1
      obtain ⟨k, hk, rfl⟩ := in3_at (by omega) h1
      refine xq (d + 1) ok_Mo_isChannel (r_isChannel E d _ hX0.1 x) (by omega) ?_
      refine brN (fun h2 => ?_) (fun h2 => ?_)
      · have h2 : aCh M x = true := h2
        obtain ⟨c, hc1, hc2, rfl⟩ := aCh_at hX.1 h2
        have hc3 := hX.1.1.2
        have e0 : qCheap M (nI c) (nI k) = if nI k = nI 0 then ye (oI (aChp M c)) else ye (aWr (M.1 65 0) (oI (aChp M c)) (sN M)) := by
          unfold qCheap; rw [if_neg (by rw [h, h1]; decide), if_neg (by rw [h2]; decide), tN_nI (by omega)]
        refine xc (d + 14) ok_Mo_cheapestOf (r_cheapestOf E d (M0 M) hX0.1 hB hr c (by omega)) (by omega) ?_
        rintro r M' ⟨rfl, b1, b2⟩
        have e1 : aChp (M0 M) c = aChp M c := by unfold aChp; rw [lefts_ag (agM0 M), wOf_ag (agM0 M)]; rfl
        rw [e1]
        have ag := (agM0 M).tr b1.R
        have h0 : M'.1 60 0 0 = nI 0 := b1.1 60 0 0 rfl
        refine cNe (by omega) (by omega) (fun h3 => ?_) (fun h3 => ?_)
        · refine xq (d + 1) ok_Mo_worthOf (r_worthOf E d M' (agRW ag hX.1) _) (by omega) ?_
          refine x_good E _ _ (by omega) (end_ye ag b2 h0 ?_)
          rw [e0, if_neg (nI_dne (by omega) (by omega) h3), ag65 ag, agS ag]
        · refine x_good E _ _ (by omega) (end_ye ag b2 h0 ?_)
          rw [e0, if_pos (by rw [h3])]
      · have h2 : aCh M x = false := h2
        refine x_ref E _ _ (by omega) (end_no 2 (agM0 M) hr rfl ?_)
        unfold qCheap; rw [if_neg (by rw [h, h1]; decide), if_pos h2]
    · have h1 : in3 y 1 = false := h1
      refine x_ref E _ _ (by omega) (end_no 1 (agM0 M) hr rfl ?_)
      unfold qCheap; rw [if_pos (by rw [h, h1]; rfl)]
theorem r_due (hX : RX M) (hB : RB M) (hr : RRe M) (x y : Int32) : Mt E (d + 15) m_Mo_due [vP 60 0, vI x, vI y] M (RQs M (qDue M x y)) := by
  have hX0 : RX (M0 M) := hX
  have hn := hX.1.2.1.2
  have hp := pow_le8 hn
  obtain ⟨hb1, hb2⟩ := id hB
  refine Mt.go ok_Mo_due [60] 60 rfl ?_
  refine xq (d + 1) ok_Mo_isStation (r_isStation E d _ hX0 y) (by omega) ?_
  refine brN (fun h1 => ?_) (fun h1 => ?_)
  · have h1 : aSt M y = true := h1
    obtain ⟨s, hs, rfl⟩ := aSt_at hX.1 h1
    have e1 : tN (nI s) = s := tN_nI (by omega)
    refine xq (d + 1) ok_Mo_isChannel (r_isChannel E d _ hX0.1 x) (by omega) ?_
    refine brN (fun h2 => ?_) (fun h2 => ?_)
    · have h2 : aCh M x = true := h2
      obtain ⟨c, hc1, hc2, rfl⟩ := aCh_at hX.1 h2
      have hc3 := hX.1.1.2
      have e0 : qDue M (nI c) (nI s) = if bt (oI (aChp M c)) s = false then ye (-(nI 2)) else match aChpW M c s with
          | none => no 6
          | some b => ye (wOf M b - aWr (M.1 65 0) (oI (aChp M c) &&& (b1 s ^^^ -(nI 1))) (sN M)) := by
        unfold qDue; rw [if_neg (by rw [h1]; decide), if_neg (by rw [h2]; decide), e1, tN_nI (by omega)]
      refine xc (d + 14) ok_Mo_cheapestOf (r_cheapestOf E d (M0 M) hX0.1 hB hr c (by omega)) (by omega) ?_
      rintro r M1 ⟨rfl, b1', b2⟩
      have ec : aChp (M0 M) c = aChp M c := by unfold aChp; rw [lefts_ag (agM0 M), wOf_ag (agM0 M)]; rfl
      rw [ec]
      generalize hset : oI (aChp M c) = set at e0
      have ag1 := (agM0 M).tr b1'.R
      have h01 : M1.1 60 0 0 = nI 0 := b1'.1 60 0 0 rfl
      refine xq d ok_Mo_has (r_has E d _ _ s (by omega)) (by omega) ?_
      refine brN (fun h3 => ?_) (fun h3 => ?_)
      · have e0 := e0.trans (if_neg (by rw [h3]; decide))
        generalize hcf : chp (fun k => subB k (M.1 65 0 24) && !bt (nI k) s) (lefts M c) (wOf M) = cf
        have hres : aChpW M c s = cf (aiN M + 1) := by unfold aChpW; rw [hcf]
        have hstep : ∀ k, cf (k + 1) = match cf k with
            | none => bif (subB k (M.1 65 0 24) && !bt (nI k) s) && lefts M c k then some k else none
            | some b => bif (subB k (M.1 65 0 24) && !bt (nI k) s) && (decide (wOf M k < wOf M b) && lefts M c k) then some k else some b := by
          intro k; rw [← hcf]; rfl
        have hlt : ∀ n b, cf n = some b → b < n := by intro n b h; rw [← hcf] at h; exact chp_lt n b h
        have key : ∀ k, k ≤ aiN M + 1 → ∀ N w, AgR M N → RRe N → N.1 60 0 0 = nI 0 → w = oI (cf k) → Wp E (d + 15) m_Mo_due 60 [some (vP 60 0), some (vI (nI c)), some (vI (nI s)), some (vI set), some (vI w), some (vI (nI k))] [] N (RQs M (qDue M (nI c) (nI s))) := by
          refine loopUp (aiN M + 1) ?_ ?_
          · intro N w ag hrN h0 hw
            have hA : N.1 65 0 24 = nI (aiN M) := by rw [ag65 ag]; exact hb1
            refine go ok_Mo_due [60] 60 ?_
            refine ix 24 (show _ < 26 by omega) rfl ?_
            refine qLt hA rfl (by omega) (by omega) (fun _ => ?_) (fun q => absurd q (by omega))
            have hwN : ∀ j, Mt E (d + 1) m_Mo_worthOf [vP 60 0, vI j] N (RP (vI (aWr (M.1 65 0) j (sN M))) N) := fun j => by
              have := r_worthOf E d N (agRW ag hX.1) j
              rw [ag65 ag, agS ag] at this
              exact this
            cases hck : cf (aiN M + 1) with
            | none =>
              rw [hck] at hw
              refine And.intro (fun q => absurd hw q) (fun _ => ?_)
              refine x_ref E _ _ (by omega) (end_no 6 ag hrN h0 ?_)
              rw [e0, hres, hck]
            | some b =>
              have hbk := hlt _ b hck
              rw [hck] at hw
              have hw : w = nI b := hw
              refine And.intro (fun _ => ?_) (fun q => absurd (hw ▸ q) (nI_ne_m (by omega) (by omega) (by omega)))
              refine xq (d + 1) ok_Mo_worthOf (hwN _) (by omega) ?_
              refine xq (d + 1) ok_Mo_worthOf (hwN _) (by omega) ?_
              refine x_good E _ _ (by omega) (end_ye ag hrN h0 ?_)
              rw [e0, hres, hck, hw]; rfl
          · intro k hk ih N w ag hrN h0 hw
            have hA : N.1 65 0 24 = nI (aiN M) := by rw [ag65 ag]; exact hb1
            have hA2 : N.1 65 0 24 = M.1 65 0 24 := by rw [ag65 ag]
            have hwN : ∀ j, Mt E (d + 1) m_Mo_worthOf [vP 60 0, vI j] N (RP (vI (aWr (M.1 65 0) j (sN M))) N) := fun j => by
              have := r_worthOf E d N (agRW ag hX.1) j
              rw [ag65 ag, agS ag] at this
              exact this
            have hfN := r_isFit E d N (agRW ag hX.1) hrN (M.1 65 0 24 &&& (nI k ^^^ -(nI 1))) c (by omega)
            rw [aFit_ag ag] at hfN
            have part : (∀ v, (v = bif lefts M c k then nI k else w) → v = oI (cf (k + 1))) → Wp E (d + 15) m_Mo_due 120 [some (vP 60 0), some (vI (nI c)), some (vI (nI s)), some (vI set), some (vI w), some (vI (nI k))] [] N (RQs M (qDue M (nI c) (nI s))) := by
              intro hv
              refine go ok_Mo_due [60] 60 ?_
              refine ix 24 (show _ < 26 by omega) rfl ?_
              refine xc (d + 13) ok_Mo_isFit (by rw [hA2]; exact hfN) (by omega) ?_
              rintro r M' ⟨rfl, b1, b2, b3⟩
              refine brF (fun h => ?_) (fun h => ?_)
              · have h : lefts M c k = false := h
                refine nm_r (nI_add _ _) (ih M' _ (ag.tr b1.R) b2 ((b1.1 60 0 0 rfl).trans h0) (hv _ ?_))
                rw [h]; rfl
              · have h : lefts M c k = true := h
                refine nm_r (nI_add _ _) (ih M' _ (ag.tr b1.R) b2 ((b1.1 60 0 0 rfl).trans h0) (hv _ ?_))
                rw [h]; rfl
            refine go ok_Mo_due [60, 120] 60 ?_
            refine ix 24 (show _ < 26 by omega) rfl ?_
            refine qLt hA rfl (by omega) (by omega) (fun q => absurd q (by omega)) (fun _ => ?_)
            refine ix 24 (show _ < 26 by omega) rfl ?_
            rw [hA2]
            refine And.intro (fun hs1 => ?_) (fun hs1 => ?_)
            · have hs1 : subB k (M.1 65 0 24) = false := decide_eq_false hs1
              refine nm_r (nI_add _ _) (ih N _ ag hrN h0 ?_)
              rw [hw, hstep k, hs1]
              cases cf k <;> rfl
            · have hs1 : subB k (M.1 65 0 24) = true := decide_eq_true hs1
              refine xq d ok_Mo_has (r_has E d _ _ s (by omega)) (by omega) ?_
              refine brN (fun h4 => ?_) (fun h4 => ?_)
              · refine nm_r (nI_add _ _) (ih N _ ag hrN h0 ?_)
                rw [hw, hstep k, hs1, h4]
                cases cf k <;> rfl
              · cases hck : cf k with
                | none =>
                  rw [hck] at hw
                  refine And.intro (fun _ => ?_) (fun q => absurd hw q)
                  refine part ?_
                  rintro v rfl
                  rw [hstep k, hck, hs1, h4, hw]
                  cases lefts M c k <;> rfl
                | some b =>
                  rw [hck] at hw
                  have hbk := hlt k b hck
                  have hw : w = nI b := hw
                  refine And.intro (fun q => absurd (hw ▸ q) (nI_ne_m (by omega) (by omega) (by omega))) (fun _ => ?_)
                  refine xq (d + 1) ok_Mo_worthOf (hwN _) (by omega) ?_
                  refine xq (d + 1) ok_Mo_worthOf (hwN _) (by omega) ?_
                  subst hw
                  refine And.intro (fun q => ?_) (fun q => ?_)
                  · have q : wOf M k < wOf M b := q
                    refine part ?_
                    rintro v rfl
                    rw [hstep k, hck, hs1, h4]; dsimp only; rw [decide_eq_true q]
                    cases lefts M c k <;> rfl
                  · have q : ¬ wOf M k < wOf M b := q
                    refine nm_r (nI_add _ _) (ih N _ ag hrN h0 ?_)
                    rw [hstep k, hck, hs1, h4]; dsimp only; rw [decide_eq_false q]; rfl
        refine key 0 (Nat.zero_le _) M1 _ ag1 b2 h01 ?_
        rw [← hcf]; rfl
      · refine x_good E _ _ (by omega) (end_ye ag1 b2 h01 ?_)
        rw [e0, if_pos h3]
    · have h2 : aCh M x = false := h2
      refine x_ref E _ _ (by omega) (end_no 2 (agM0 M) hr rfl ?_)
      unfold qDue; rw [if_neg (by rw [h1]; decide), if_pos h2]
  · have h1 : aSt M y = false := h1
    refine x_ref E _ _ (by omega) (end_no 1 (agM0 M) hr rfl ?_)
    unfold qDue; rw [if_pos h1]
end R11
