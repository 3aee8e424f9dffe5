/-! the reference: proof, could -/
def oI2 : Option Nat → Int32
  | none => -(nI 2)
  | some b => nI b
def aPrf (M : Me) (x : Int32) (m : Nat) : Option Nat := chp (fun k => decide (1 ≤ k) && subB k x) (fun k => !aFit M (nI k) m) (fun k => aBits (nI k) 16) (tN x + 1)
def qProof (M : Me) (x y : Int32) : AT := if tWhy M x y ≠ 0 then no (tWhy M x y) else ye (oI2 (aPrf M x (tN y)))
/-- with one channel alone for a station -/
def Mc (M : Me) (s c : Nat) : Me := sI M 65 0 (16 + s) (b1 (c - 1) ^^^ -(nI 1))
def qCould (M : Me) (x y z : Int32) : AT := if tWhyOf M x y z ≠ 0 then no (tWhyOf M x y z) else ye (mkS (fun i => aLst M (tN z) i && aFit (Mc M (tN z) (i + 1)) x (tN y)) (tN y))
section R12
variable (E : EV) (d : Nat) (M : Me)
theorem r_proof (hX : RX M) (hr : RRe M) (x y : Int32) : Mt E (d + 14) m_Mo_proof [vP 60 0, vI x, vI y] M (RQs M (qProof M x y)) := by
  have hX0 : RX (M0 M) := hX
  have hn := hX.1.2.1.2
  have hp := pow_le8 hn
  refine Mt.go ok_Mo_proof [29] 60 rfl ?_
  refine xq (d + 2) ok_Mo_whyNot (r_whyNot E d _ hX0 x y) (by omega) ?_
  have et : tWhy (M0 M) x y = tWhy M x y := rfl
  rw [et]
  have hle := tWhy_le M x y
  refine cLe (by omega) (by omega) (fun h => ?_) (fun h => ?_)
  · have h : tWhy M x y = 0 := by omega
    obtain ⟨w1, w2, w3⟩ := tWhy_0 M h
    obtain ⟨c, hc1, hc2, rfl⟩ := aCh_at hX.1 w3
    obtain ⟨a, ha, rfl⟩ := aSet_at hX.1 w2
    have hc3 := hX.1.1.2
    have ea : tN (nI a) = a := tN_nI (by omega)
    have e0 : qProof M (nI a) (nI c) = ye (oI2 (aPrf M (nI a) c)) := by unfold qProof; rw [if_neg (by rw [h]; decide), tN_nI (by omega)]
    generalize hcf : chp (fun k => decide (1 ≤ k) && subB k (nI a)) (fun k => !aFit M (nI k) c) (fun k => aBits (nI k) 16) = cf
    have hres : aPrf M (nI a) c = cf (a + 1) := by unfold aPrf; rw [hcf, ea]
    have hstep : ∀ k, cf (k + 1) = match cf k with
        | none => bif (decide (1 ≤ k) && subB k (nI a)) && !aFit M (nI k) c then some k else none
        | some b => bif (decide (1 ≤ k) && subB k (nI a)) && (decide (aBits (nI k) 16 < aBits (nI b) 16) && !aFit M (nI k) c) then some k else some b := by
      intro k; rw [← hcf]; rfl
    have hlt : ∀ n b, cf n = some b → b < n := by intro n b h; rw [← hcf] at h; exact chp_lt n b h
    have key : ∀ j, j ≤ a → ∀ N w, AgR M N → RRe N → N.1 60 0 0 = nI 0 → w = oI2 (cf (j + 1)) → Wp E (d + 14) m_Mo_proof 29 [some (vP 60 0), some (vI (nI a)), some (vI (nI c)), some (vI (nI 0)), some (vI w), some (vI (nI (j + 1)))] [] N (RQs M (qProof M (nI a) (nI c))) := by
      refine loopUp a ?_ ?_
      · intro N w ag hrN h0 hw
        refine go ok_Mo_proof [29] 60 ?_
        refine cLt (by omega) (by omega) (fun _ => ?_) (fun q => absurd q (by omega))
        refine x_good E _ _ (by omega) (end_ye ag hrN h0 ?_)
        rw [e0, hres, hw]
      · intro j hj ih N w ag hrN h0 hw
        have hfN := r_isFit E d N (agRW ag hX.1) hrN (nI (j + 1)) c (by omega)
        rw [aFit_ag ag] at hfN
        have d1 : decide (1 ≤ j + 1) = true := decide_eq_true (by omega)
        have part : (∀ v, (v = bif !aFit M (nI (j + 1)) c then nI (j + 1) else w) → v = oI2 (cf (j + 1 + 1))) → Wp E (d + 14) m_Mo_proof 64 [some (vP 60 0), some (vI (nI a)), some (vI (nI c)), some (vI (nI 0)), some (vI w), some (vI (nI (j + 1)))] [] N (RQs M (qProof M (nI a) (nI c))) := by
          intro hv
          refine go ok_Mo_proof [29] 60 ?_
          refine xc (d + 13) ok_Mo_isFit hfN (by omega) ?_
          rintro r M' ⟨rfl, b1, b2, b3⟩
          refine brF (fun h => ?_) (fun h => ?_)
          · refine nm_r (nI_add _ _) (ih M' _ (ag.tr b1.R) b2 ((b1.1 60 0 0 rfl).trans h0) (hv _ ?_))
            rw [h]; rfl
          · refine nm_r (nI_add _ _) (ih M' _ (ag.tr b1.R) b2 ((b1.1 60 0 0 rfl).trans h0) (hv _ ?_))
            rw [h]; rfl
        refine go ok_Mo_proof [29, 64] 60 ?_
        refine cLt (by omega) (by omega) (fun q => absurd q (by omega)) (fun _ => ?_)
        refine And.intro (fun hs => ?_) (fun hs => ?_)
        · have hs : subB (j + 1) (nI a) = false := decide_eq_false hs
          refine nm_r (nI_add _ _) (ih N _ ag hrN h0 ?_)
          rw [hw, hstep (j + 1), hs, Bool.and_false]
          cases cf (j + 1) <;> rfl
        · have hs : subB (j + 1) (nI a) = true := decide_eq_true hs
          cases hck : cf (j + 1) with
          | none =>
            rw [hck] at hw
            refine And.intro (fun _ => ?_) (fun q => absurd hw q)
            refine part ?_
            rintro v rfl
            rw [hstep (j + 1), hck, hs, d1, hw]
            cases aFit M (nI (j + 1)) c <;> rfl
          | some b =>
            rw [hck] at hw
            have hbk := hlt (j + 1) b hck
            have hw : w = nI b := hw
            refine And.intro (fun q => absurd (hw ▸ q) (nI_ne_m (by omega) (by omega) (by omega))) (fun _ => ?_)
            refine xq d ok_Mo_bits (r_bits E d _ _) (by omega) ?_
            refine xq d ok_Mo_bits (r_bits E d _ _) (by omega) ?_
            subst hw
            refine And.intro (fun q => ?_) (fun q => ?_)
            · refine nm_r (nI_add _ _) (ih N _ ag hrN h0 ?_)
              rw [hstep (j + 1), hck, hs, d1]; dsimp only; rw [decide_eq_false (Int32.not_lt.mpr q)]; rfl
            · refine part ?_
              rintro v rfl
              rw [hstep (j + 1), hck, hs, d1]; dsimp only; rw [decide_eq_true (Int32.not_le.mp q)]
              cases aFit M (nI (j + 1)) c <;> rfl
    have e1 : cf (0 + 1) = none := by rw [hstep 0, ← hcf]; rfl
    have := key 0 (Nat.zero_le _) (M0 M) (-(nI 2)) (agM0 M) hr rfl (by rw [e1]; rfl)
    rw [h]
    exact this
  · refine x_ref E _ _ (by omega) (end_no (tWhy M x y) (agM0 M) hr rfl ?_)
    unfold qProof; rw [if_pos (by omega)]
theorem sI_back {N : Me} {i r k : Nat} {x : Int32} : sI (sI N i r k x) i r k (N.1 i r k) = N := by
  refine Prod.ext ?_ rfl
  funext a b c
  show up3 (up3 N.1 i r k x) i r k (N.1 i r k) a b c = N.1 a b c
  by_cases h : a = i ∧ b = r ∧ c = k
  · obtain ⟨rfl, rfl, rfl⟩ := h
    rw [up3_same]
  · rw [up3_ne h, up3_ne h]
theorem RW_ban {N : Me} {s : Nat} {v : Int32} (hs : sN N ≤ 8) (h : RW N) : RW (sI N 65 0 (16 + s) v) := by
  obtain ⟨h1, h2, h3, h4⟩ := h
  refine ⟨h1, h2, h3, fun t ht => ?_⟩
  have ht : t < sN N := ht
  have e : (sI N 65 0 (16 + s) v).1 65 0 t = N.1 65 0 t := up3_ne (fun z => by omega)
  have e2 : oN (sI N 65 0 (16 + s) v) t = oN N t := by unfold oN; rw [e]
  rw [e, e2]
  exact h4 t ht
theorem Mc_ag {M N : Me} (h : AgR M N) (s c : Nat) : AgR (Mc M s c) (Mc N s c) := by
  refine ⟨fun i r k e => ?_, h.2⟩
  show up3 N.1 65 0 (16 + s) _ i r k = up3 M.1 65 0 (16 + s) _ i r k
  by_cases z : i = 65 ∧ r = 0 ∧ k = 16 + s
  · obtain ⟨rfl, rfl, rfl⟩ := z
    rw [up3_same, up3_same]
  · rw [up3_ne z, up3_ne z]; exact h.1 i r k e
theorem r_could (hX : RX M) (hr : RRe M) (x y z : Int32) : Mt E (d + 14) m_Mo_could [vP 60 0, vI x, vI y, vI z] M (RQs M (qCould M x y z)) := by
  have hX0 : RX (M0 M) := hX
  have hn := hX.1.2.1.2
  refine Mt.go ok_Mo_could [43] 60 rfl ?_
  refine xq (d + 2) ok_Mo_whyNotOf (r_whyNotOf E d _ hX0 x y z) (by omega) ?_
  have et : tWhyOf (M0 M) x y z = tWhyOf M x y z := rfl
  rw [et]
  have hle := tWhyOf_le M x y z
  refine cLe (by omega) (by omega) (fun h => ?_) (fun h => ?_)
  · have h : tWhyOf M x y z = 0 := by omega
    obtain ⟨w1, w2, w3, w4⟩ := tWhyOf_0 M h
    obtain ⟨m, hc1, hc2, rfl⟩ := aCh_at hX.1 w3
    obtain ⟨s, hs, rfl⟩ := aSt_at hX.1 w1
    have hc3 := hX.1.1.2
    have e2 : tN (nI s) = s := tN_nI (by omega)
    have e0 : qCould M x (nI m) (nI s) = ye (mkS (fun i => aLst M s i && aFit (Mc M s (i + 1)) x m) m) := by unfold qCould; rw [if_neg (by rw [h]; decide), e2, tN_nI (show m < 2 ^ 31 by omega)]
    generalize hf : (fun i => aLst M s i && aFit (Mc M s (i + 1)) x m) = f at e0
    refine ix (16 + s) (show _ < 26 by omega) (nI_s8 16 s) ?_
    have key : ∀ k, k ≤ m → ∀ N w, AgR M N → RRe N → N.1 60 0 0 = nI 0 → w = mkS f k → Wp E (d + 14) m_Mo_could 43 [some (vP 60 0), some (vI x), some (vI (nI m)), some (vI (nI s)), some (vI (nI 0)), some (vI w), some (vI (M.1 65 0 (16 + s))), some (vI (nI (k + 1)))] [] N (RQs M (qCould M x (nI m) (nI s))) := by
      refine loopUp m ?_ ?_
      · intro N w ag hrN h0 hw
        refine go ok_Mo_could [43] 60 ?_
        refine cLt (by omega) (by omega) (fun _ => ?_) (fun q => absurd q (by omega))
        refine x_good E _ _ (by omega) (end_ye ag hrN h0 ?_)
        rw [e0, hw]
      · intro k hk ih N w ag hrN h0 hw
        have hfk : f k = (aLst M s k && aFit (Mc M s (k + 1)) x m) := by rw [← hf]
        have hRN := agRW ag hX.1
        refine go ok_Mo_could [43] 70 ?_
        refine cLt (by omega) (by omega) (fun q => absurd q (by omega)) (fun _ => ?_)
        refine xq (d + 2) ok_Mo_list (r_list E d N hRN s (by omega)) (by omega) ?_
        refine xq d ok_Mo_has (by rw [nI_sub1]; exact r_has E d N _ k (by omega)) (by omega) ?_
        rw [S32_at (by omega), agL ag]
        refine brN (fun h1 => ?_) (fun h1 => ?_)
        · refine ix (16 + s) (show _ < 26 by omega) (nI_s8 16 s) ?_
          rw [nI_sub1]
          have hRc : RW (Mc N s (k + 1)) := RW_ban (by rw [agS ag]; exact hn) hRN
          have hfN := r_isFit E d (Mc N s (k + 1)) hRc (RRe_o hrN rfl) x m (by omega)
          rw [aFit_ag (Mc_ag ag s (k + 1))] at hfN
          refine xc (d + 13) ok_Mo_isFit hfN (by omega) ?_
          rintro r M' ⟨rfl, b1, b2, b3⟩
          have hback : AgR M (sI M' 65 0 (16 + s) (M.1 65 0 (16 + s))) := by
            refine ⟨fun i r j e => ?_, b1.2.trans ag.2⟩
            show up3 M'.1 65 0 (16 + s) _ i r j = _
            by_cases q : i = 65 ∧ r = 0 ∧ j = 16 + s
            · obtain ⟨rfl, rfl, rfl⟩ := q
              rw [up3_same]
            · rw [up3_ne q, b1.R.1 i r j e]
              show up3 N.1 65 0 (16 + s) _ i r j = _
              rw [up3_ne q]
              exact ag.1 i r j e
          have h0' : (sI M' 65 0 (16 + s) (M.1 65 0 (16 + s))).1 60 0 0 = nI 0 := (b1.1 60 0 0 rfl).trans h0
          refine brF (fun h2 => ?_) (fun h2 => ?_)
          · refine ix (16 + s) (show _ < 26 by omega) (nI_s8 16 s) ?_
            refine nm_r (nI_add _ _) (ih _ _ hback b2 h0' ?_)
            rw [hw, or0, mkS, hfk, h1, h2]; rfl
          · refine ix (16 + s) (show _ < 26 by omega) (nI_s8 16 s) ?_
            refine nm_r (nI_add _ _) (ih _ _ hback b2 h0' ?_)
            rw [hw, mkS, hfk, h1, h2, nI_sub1]; rfl
        · refine nm_r (nI_add _ _) (ih N _ ag hrN h0 ?_)
          rw [hw, mkS, hfk, h1]; rfl
    have := key 0 (Nat.zero_le _) (M0 M) _ (agM0 M) hr rfl rfl
    rw [h]
    exact this
  · refine x_ref E _ _ (by omega) (end_no (tWhyOf M x y z) (agM0 M) hr rfl ?_)
    unfold qCould; rw [if_pos (by omega)]
end R12
