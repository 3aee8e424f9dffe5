/-! acts: class and reference answer alike -/
theorem rem65 (N : Me) (k : Nat) : (remM N).1 65 0 k = N.1 65 0 k := remM_off N (by omega) (by omega)
theorem k_actG (E : EV) {mC mM : MC} {as : List AV} (t : Me → Nat) (v : Me → Int32) (Nc Nr : Me → Me) (dc d' : Nat) (hdc : dc < 41) (hd' : d' < 41)
    (hc : ∀ n M, WI M n → Mt E dc mC (vP 0 0 :: as) M (AC M (t M) (v M) (Nc M)))
    (hr : ∀ M, RX M → RA M → Mt E d' mM (vP 60 0 :: as) M (RT M (t M) (v M) (Nr M)))
    (t4 : ∀ M, t M = 0 ∨ t M = 1 ∨ t M = 2 ∨ t M = 5 ∨ t M = 6)
    (tc : ∀ M x, t (sI M 0 0 11 x) = t M)
    (tc2 : ∀ M, t (sI (Nc M) 0 0 11 (nI 0)) = t M) (vc2 : ∀ M, v (sI (Nc M) 0 0 11 (nI 0)) = v M)
    (X : ∀ M, RX M → RX (sI (Nc M) 0 0 11 (nI 0))) (A : ∀ M, RA M → RA (sI (Nc M) 0 0 11 (nI 0)))
    (fin : ∀ n M, n + 1 < 2000 → WI M n → t M = 0 → WI (fin0 (Nr (sI (Nc M) 0 0 11 (nI 0)))) (n + 1)) : Call2 E mC mM as := by
  intro n M hn h
  have hC := WI_CI h
  have hA := WI_RA h
  refine CallK.mk dc hdc (hc n M h) ?_
  rintro r M1 (⟨h0, rfl, rfl⟩ | ⟨h0, rfl, rfl⟩)
  · refine ⟨_, rfl, CallK.mk d' hd' (hr (sI M 0 0 11 (nI (t M))) hC.1 hA) ?_⟩
    rintro r M2 (⟨g0, rfl, rfl⟩ | ⟨g0, -⟩)
    · rw [tc]
      exact ⟨rfl, WI_q0 h hn (g4_no (t4 M))⟩
    · rw [tc] at g0
      exact absurd g0 h0
  · refine ⟨_, rfl, CallK.mk d' hd' (hr _ (X M hC.1) (A M hA)) ?_⟩
    rintro r M2 (⟨g0, -⟩ | ⟨-, rfl, rfl⟩)
    · rw [tc2] at g0
      exact absurd h0 g0
    · rw [vc2]
      exact ⟨rfl, fin n M hn h h0⟩
/-- the fields that an act's end leaves as they were -/
theorem clR_mt (M : Me) {i r k : Nat} (h : ¬ (i = 0 ∧ k = 11)) : (clR (MT0 M)).1 i r k = (clR M).1 i r k := by
  have e1 : hx (MT0 M) = hx M := rfl
  have e2 : hz (MT0 M) = hz M := rfl
  have e3 : snp (MT0 M) = snp M := rfl
  rw [clR_is, clR_is, e1, e2, e3, sI_at, if_neg (show ¬ (i = 0 ∧ r = 0 ∧ k = 11) by omega)]
theorem KNm_act {M M1 : Me} {n : Nat} (h : KNm M n) (hn : n + 1 < 2000) (c : ∀ i r k, ¬ (4 ≤ i ∧ i ≤ 7) → ¬ (i = 0 ∧ k = 11) → M1.1 i r k = (clR M).1 i r k) (c2 : M1.2 = M.2) : KNm M1 (n + 1) := by
  refine KNm_up (KNm_fr (fun i r k e => ?_) c2 h) hn
  rw [P7_i] at e
  rw [c i r k (by omega) (by omega), clR_off M (by omega) (by omega)]
/-- an act without a search -/
theorem WI_rem0 {M M1 : Me} {n : Nat} (h : WI M n) (hn : n + 1 < 2000) (Nr : Me) (c1 : ∀ i r k, ¬ (4 ≤ i ∧ i ≤ 7) → ¬ (i = 0 ∧ k = 11) → M1.1 i r k = (clR M).1 i r k) (c2 : M1.2 = M.2) (c3 : M1.1 0 0 11 = nI 0) (n1 : ∀ i r k, i ≠ 65 → Nr.1 i r k = (remM (M0 M1)).1 i r k) (n2 : Nr.2 = M1.2) (hv : ImV (sN M) (Nr.1 65 0)) (hnw : ∀ s, s < sN M → M1.1 5 0 s = Nr.1 65 0 s ∧ M1.1 6 0 s = Nr.1 65 0 (8 + s) ∧ M1.1 7 0 s = Nr.1 65 0 (16 + s)) (ha : M1.1 4 0 3 = Nr.1 65 0 24) (hp : M1.1 4 0 4 = Nr.1 65 0 25) : WI (fin0 Nr) (n + 1) := by
  refine WI_rem (M1 := M1) h (fun i r k q1 _ q3 => c1 i r k q1 q3) c2 c3 (fun i r k q1 q2 => ?_) n2 rfl rfl (KNm_act h.2.2.2.1 hn c1 c2) (RRe_o h.2.2.2.2 ?_) hv hnw ha hp
  · have q3 := scrR_i.mp q2
    unfold fin0
    rw [sI_at, if_neg (by omega), sI_at, if_neg (by omega), n1 i r k q1]
    exact (ag_rem (agM0 M1)).1 i r k q2
  · funext r k
    show (fin0 Nr).1 70 r k = _
    unfold fin0
    rw [sI_at, if_neg (by omega), sI_at, if_neg (by omega), n1 70 r k (by omega), remM_off _ (by omega) (by omega), sI_at, if_neg (by omega), c1 70 r k (by omega) (by omega), clR_off M (by omega) (by omega)]
theorem ImV_ch {n : Nat} {g g' : Nat → Int32} (h : ImV n g) (j : Nat) (hj : j < 8) {c : Nat} (hc : 1 ≤ c ∧ c ≤ 10) (hg : ∀ k, g' k = if k = j then nI c else g k) (h8 : n ≤ 8) : ImV n g' := by
  obtain ⟨h1, h2, h3⟩ := h
  refine ⟨fun s hs => ?_, fun s hs => ?_, ?_⟩
  · rw [hg]
    by_cases e : s = j
    · rw [if_pos e]; exact ⟨c, rfl, hc.1, hc.2⟩
    · rw [if_neg e]; exact h1 s hs
  · rw [hg, if_neg (by omega)]; exact h2 s hs
  · rw [hg, if_neg (by omega)]; exact h3
section K2
variable (E : EV)
theorem k_move (x y z : Int32) (hz : z = nI 0 ∨ z = nI 1) : Call2 E m_CS_move m_Mo_move [vI x, vI y, vI z] := by
  refine k_actG E (fun M => tMove M x y z) (fun M => M.1 65 0 (tN x)) (fun M => sI (clR (MT0 M)) 5 0 (tN x) y) (fun M => nMove M x y) _ _ (by omega) (by omega) (fun n M h => c_move E 0 M (WI_CI h) (WI_RH h) x y z hz) (fun M hX hA => r_move E 0 M hX hA x y z hz) (fun M => ?_) (fun _ _ => rfl) (fun _ => rfl) (fun _ => rfl) (fun _ h => h) (fun _ h => h) (fun n M hn h h0 => ?_)
  · unfold tMove
    cases aSt M x <;> cases aCh M y <;> cases decide (z = nI 0) && !aMay M (tN x) (tN y) <;> simp
  · have hC := WI_CI h
    have h8 := hC.1.1.2.1.2
    have q1 : aSt M x = true := by
      unfold tMove at h0
      cases q : aSt M x with
      | true => rfl
      | false => rw [q] at h0; cases h0
    have q2 : aCh M y = true := by
      unfold tMove at h0
      rw [q1] at h0
      cases q : aCh M y with
      | true => rfl
      | false => rw [q] at h0; cases h0
    obtain ⟨s, hs, rfl⟩ := aSt_at hC.1.1 q1
    obtain ⟨c, hc1, hc2, rfl⟩ := aCh_at hC.1.1 q2
    have hc10 := hC.1.1.1.2
    have es : tN (nI s) = s := tN_nI (by omega)
    rw [es]
    have e65 : ∀ k, (nMove (sI (sI (clR (MT0 M)) 5 0 s (nI c)) 0 0 11 (nI 0)) (nI s) (nI c)).1 65 0 k = if k = s then nI c else M.1 65 0 k := by
      intro k
      unfold nMove
      rw [es, sI_at, rem65]
      by_cases e : k = s
      · rw [if_pos ⟨rfl, rfl, e⟩, if_pos e]
      · rw [if_neg (fun z => e z.2.2), if_neg e]; rfl
    obtain ⟨n1, n2, n3⟩ := hC.2.2.2.2.1
    refine WI_rem0 (M1 := sI (sI (clR (MT0 M)) 5 0 s (nI c)) 0 0 11 (nI 0)) h hn _ (fun i r k q1 q2 => ?_) rfl rfl (fun i r k q => ?_) ?_ (ImV_ch h.2.1.1.1 s (by omega) ⟨hc1, by omega⟩ e65 h8) (fun t ht => ⟨?_, ?_, ?_⟩) ?_ ?_
    · rw [sI_at, if_neg (by omega), sI_at, if_neg (by omega), clR_mt M q2]
    · unfold nMove
      rw [sI_at, if_neg (by omega)]
    · show (remM _).2 = _
      rw [remM_2]; rfl
    · rw [e65, sI_at, if_neg (by omega), sI_at]
      by_cases e : t = s
      · rw [if_pos ⟨rfl, rfl, e⟩, if_pos e]
      · rw [if_neg (fun z => e z.2.2), if_neg e, clR_off _ (by omega) (by omega)]; exact (n3 t ht).1
    · rw [e65, if_neg (by omega), sI_at, if_neg (by omega), sI_at, if_neg (by omega), clR_off _ (by omega) (by omega)]; exact (n3 t ht).2.1
    · rw [e65, if_neg (by omega), sI_at, if_neg (by omega), sI_at, if_neg (by omega), clR_off _ (by omega) (by omega)]; exact (n3 t ht).2.2
    · rw [e65, if_neg (by omega), sI_at, if_neg (by omega), sI_at, if_neg (by omega), clR_off _ (by omega) (by omega)]; exact n1
    · rw [e65, if_neg (by omega), sI_at, if_neg (by omega), sI_at, if_neg (by omega), clR_off _ (by omega) (by omega)]; exact n2
theorem k_value (x y : Int32) : Call2 E m_CS_value m_Mo_value [vI x, vI y] := by
  refine k_actG E (fun M => tVal M x y) (fun M => M.1 65 0 (8 + tN x)) (fun M => sI (clR (MT0 M)) 6 0 (tN x) y) (fun M => nVal M x y) _ _ (by omega) (by omega) (fun n M h => c_value E 0 M (WI_CI h) (WI_RH h) x y) (fun M hX hA => r_value E 0 M hX hA x y) (fun M => ?_) (fun _ _ => rfl) (fun _ => rfl) (fun _ => rfl) (fun _ h => h) (fun _ h => h) (fun n M hn h h0 => ?_)
  · unfold tVal
    cases aSt M x <;> cases in3 y 999 <;> simp
  · have hC := WI_CI h
    have h8 := hC.1.1.2.1.2
    have q1 : aSt M x = true := by
      unfold tVal at h0
      cases q : aSt M x with
      | true => rfl
      | false => rw [q] at h0; cases h0
    have q2 : in3 y 999 = true := by
      unfold tVal at h0
      rw [q1] at h0
      cases q : in3 y 999 with
      | true => rfl
      | false => rw [q] at h0; cases h0
    obtain ⟨s, hs, rfl⟩ := aSt_at hC.1.1 q1
    obtain ⟨c, hc1, rfl⟩ := in3_at (by omega) q2
    have es : tN (nI s) = s := tN_nI (by omega)
    rw [es]
    have e65 : ∀ k, (nVal (sI (sI (clR (MT0 M)) 6 0 s (nI c)) 0 0 11 (nI 0)) (nI s) (nI c)).1 65 0 k = if k = 8 + s then nI c else M.1 65 0 k := by
      intro k
      unfold nVal
      rw [es, sI_at, rem65]
      by_cases e : k = 8 + s
      · rw [if_pos ⟨rfl, rfl, e⟩, if_pos e]
      · rw [if_neg (fun z => e z.2.2), if_neg e]; rfl
    obtain ⟨n1, n2, n3⟩ := hC.2.2.2.2.1
    obtain ⟨v1, v2, v3⟩ := h.2.1.1.1
    refine WI_rem0 (M1 := sI (sI (clR (MT0 M)) 6 0 s (nI c)) 0 0 11 (nI 0)) h hn _ (fun i r k q1 q2 => ?_) rfl rfl (fun i r k q => ?_) ?_ ⟨fun t ht => ?_, fun t ht => ?_, ?_⟩ (fun t ht => ⟨?_, ?_, ?_⟩) ?_ ?_
    · rw [sI_at, if_neg (by omega), sI_at, if_neg (by omega), clR_mt M q2]
    · unfold nVal
      rw [sI_at, if_neg (by omega)]
    · show (remM _).2 = _
      rw [remM_2]; rfl
    · rw [e65, if_neg (by omega)]; exact v1 t ht
    · rw [e65]
      by_cases e : t = s
      · rw [if_pos (by omega)]; exact ⟨c, rfl, hc1⟩
      · rw [if_neg (by omega)]; exact v2 t ht
    · rw [e65, if_neg (by omega)]; exact v3
    · rw [e65, if_neg (by omega), sI_at, if_neg (by omega), sI_at, if_neg (by omega), clR_off _ (by omega) (by omega)]; exact (n3 t ht).1
    · rw [e65, sI_at, if_neg (by omega), sI_at]
      by_cases e : t = s
      · rw [if_pos ⟨rfl, rfl, e⟩, if_pos (by omega)]
      · rw [if_neg (fun z => e z.2.2), if_neg (by omega), clR_off _ (by omega) (by omega)]; exact (n3 t ht).2.1
    · rw [e65, if_neg (by omega), sI_at, if_neg (by omega), sI_at, if_neg (by omega), clR_off _ (by omega) (by omega)]; exact (n3 t ht).2.2
    · rw [e65, if_neg (by omega), sI_at, if_neg (by omega), sI_at, if_neg (by omega), clR_off _ (by omega) (by omega)]; exact n1
    · rw [e65, if_neg (by omega), sI_at, if_neg (by omega), sI_at, if_neg (by omega), clR_off _ (by omega) (by omega)]; exact n2
theorem k_ban (x y : Int32) : Call2 E m_CS_ban m_Mo_ban [vI x, vI y] := by
  refine k_actG E (fun M => tBan M x y) (fun M => M.1 65 0 (16 + tN x) ^^^ b1 (tN y - 1)) (fun M => sI (clR (MT0 M)) 7 0 (tN x) (M.1 65 0 (16 + tN x) ^^^ b1 (tN y - 1))) (fun M => nBan M x y) _ _ (by omega) (by omega) (fun n M h => c_ban E 0 M (WI_CI h) (WI_RH h) x y) (fun M hX hA => r_ban E 0 M hX hA x y) (fun M => ?_) (fun _ _ => rfl) (fun _ => rfl) (fun _ => rfl) (fun _ h => h) (fun _ h => h) (fun n M hn h h0 => ?_)
  · unfold tBan
    cases aSt M x <;> cases aCh M y <;> simp
  · have hC := WI_CI h
    have h8 := hC.1.1.2.1.2
    have q1 : aSt M x = true := by
      unfold tBan at h0
      cases q : aSt M x with
      | true => rfl
      | false => rw [q] at h0; cases h0
    obtain ⟨s, hs, rfl⟩ := aSt_at hC.1.1 q1
    have es : tN (nI s) = s := tN_nI (by omega)
    rw [es]
    generalize hw : M.1 65 0 (16 + s) ^^^ b1 (tN y - 1) = w
    have e65 : ∀ k, (nBan (sI (sI (clR (MT0 M)) 7 0 s w) 0 0 11 (nI 0)) (nI s) y).1 65 0 k = if k = 16 + s then w else M.1 65 0 k := by
      intro k
      unfold nBan
      rw [es, sI_at, rem65]
      by_cases e : k = 16 + s
      · rw [if_pos ⟨rfl, rfl, e⟩, if_pos e, ← hw]; rfl
      · rw [if_neg (fun z => e z.2.2), if_neg e]; rfl
    obtain ⟨n1, n2, n3⟩ := hC.2.2.2.2.1
    obtain ⟨v1, v2, v3⟩ := h.2.1.1.1
    refine WI_rem0 (M1 := sI (sI (clR (MT0 M)) 7 0 s w) 0 0 11 (nI 0)) h hn _ (fun i r k q1 q2 => ?_) rfl rfl (fun i r k q => ?_) ?_ ⟨fun t ht => ?_, fun t ht => ?_, ?_⟩ (fun t ht => ⟨?_, ?_, ?_⟩) ?_ ?_
    · rw [sI_at, if_neg (by omega), sI_at, if_neg (by omega), clR_mt M q2]
    · unfold nBan
      rw [sI_at, if_neg (by omega)]
    · show (remM _).2 = _
      rw [remM_2]; rfl
    · rw [e65, if_neg (by omega)]; exact v1 t ht
    · rw [e65, if_neg (by omega)]; exact v2 t ht
    · rw [e65, if_neg (by omega)]; exact v3
    · rw [e65, if_neg (by omega), sI_at, if_neg (by omega), sI_at, if_neg (by omega), clR_off _ (by omega) (by omega)]; exact (n3 t ht).1
    · rw [e65, if_neg (by omega), sI_at, if_neg (by omega), sI_at, if_neg (by omega), clR_off _ (by omega) (by omega)]; exact (n3 t ht).2.1
    · rw [e65, sI_at, if_neg (by omega), sI_at]
      by_cases e : t = s
      · rw [if_pos ⟨rfl, rfl, e⟩, if_pos (by omega)]
      · rw [if_neg (fun z => e z.2.2), if_neg (by omega), clR_off _ (by omega) (by omega)]; exact (n3 t ht).2.2
    · rw [e65, if_neg (by omega), sI_at, if_neg (by omega), sI_at, if_neg (by omega), clR_off _ (by omega) (by omega)]; exact n1
    · rw [e65, if_neg (by omega), sI_at, if_neg (by omega), sI_at, if_neg (by omega), clR_off _ (by omega) (by omega)]; exact n2
theorem k_buy (x y : Int32) : Call2 E m_CS_buy m_Mo_buy [vI x, vI y] := by
  refine k_actG E (fun M => tBuy M x y) (fun M => M.1 65 0 25 + y) (fun M => sI (sI (clR (MT0 M)) 4 0 3 (M.1 65 0 24 &&& (b1 (tN x) ^^^ -(nI 1)))) 4 0 4 (M.1 65 0 25 + y)) (fun M => nBuy M x y) _ _ (by omega) (by omega) (fun n M h => c_buy E 0 M (WI_CI h) (WI_RH h) x y) (fun M hX hA => r_buy E 0 M hX hA x y) (fun M => ?_) (fun _ _ => rfl) (fun _ => rfl) (fun _ => rfl) (fun _ h => h) (fun _ h => h) (fun n M hn h h0 => ?_)
  · unfold tBuy
    cases aSt M x <;> cases in3 y 999 <;> cases aOn M (tN x) <;> simp
  · have hC := WI_CI h
    have h8 := hC.1.1.2.1.2
    generalize hw : M.1 65 0 24 &&& (b1 (tN x) ^^^ -(nI 1)) = w
    generalize hu : M.1 65 0 25 + y = u
    have e65 : ∀ k, (nBuy (sI (sI (sI (clR (MT0 M)) 4 0 3 w) 4 0 4 u) 0 0 11 (nI 0)) x y).1 65 0 k = if k = 25 then u else if k = 24 then w else M.1 65 0 k := by
      intro k
      unfold nBuy
      rw [sI_at]
      by_cases e : k = 25
      · rw [if_pos ⟨rfl, rfl, e⟩, if_pos e, ← hu]; rfl
      · rw [if_neg (fun z => e z.2.2), if_neg e, sI_at, rem65]
        by_cases e2 : k = 24
        · rw [if_pos ⟨rfl, rfl, e2⟩, if_pos e2, ← hw]; rfl
        · rw [if_neg (fun z => e2 z.2.2), if_neg e2]; rfl
    obtain ⟨n1, n2, n3⟩ := hC.2.2.2.2.1
    obtain ⟨v1, v2, v3⟩ := h.2.1.1.1
    refine WI_rem0 (M1 := sI (sI (sI (clR (MT0 M)) 4 0 3 w) 4 0 4 u) 0 0 11 (nI 0)) h hn _ (fun i r k q1 q2 => ?_) rfl rfl (fun i r k q => ?_) ?_ ⟨fun t ht => ?_, fun t ht => ?_, ?_⟩ (fun t ht => ⟨?_, ?_, ?_⟩) ?_ ?_
    · rw [sI_at, if_neg (by omega), sI_at, if_neg (by omega), sI_at, if_neg (by omega), clR_mt M q2]
    · unfold nBuy
      rw [sI_at, if_neg (by omega), sI_at, if_neg (by omega)]
    · show (remM _).2 = _
      rw [remM_2]; rfl
    · rw [e65, if_neg (by omega), if_neg (by omega)]; exact v1 t ht
    · rw [e65, if_neg (by omega), if_neg (by omega)]; exact v2 t ht
    · rw [e65, if_neg (by omega), if_pos rfl, ← hw]
      refine setLt8 h8 (fun i hi hb => ?_)
      rw [b_and, Bool.and_eq_true] at hb
      exact air_lt hC.2.1 hb.1
    · rw [e65, if_neg (by omega), if_neg (by omega), sI_at, if_neg (by omega), sI_at, if_neg (by omega), sI_at, if_neg (by omega), clR_off _ (by omega) (by omega)]; exact (n3 t ht).1
    · rw [e65, if_neg (by omega), if_neg (by omega), sI_at, if_neg (by omega), sI_at, if_neg (by omega), sI_at, if_neg (by omega), clR_off _ (by omega) (by omega)]; exact (n3 t ht).2.1
    · rw [e65, if_neg (by omega), if_neg (by omega), sI_at, if_neg (by omega), sI_at, if_neg (by omega), sI_at, if_neg (by omega), clR_off _ (by omega) (by omega)]; exact (n3 t ht).2.2
    · rw [e65, if_neg (by omega), if_pos rfl, sI_at, if_neg (by omega), sI_at, if_neg (by omega), sI_at, if_pos ⟨rfl, rfl, rfl⟩]
    · rw [e65, if_pos rfl, sI_at, if_neg (by omega), sI_at, if_pos ⟨rfl, rfl, rfl⟩]
theorem k_air (x : Int32) : Call2 E m_CS_air m_Mo_air [vI x] := by
  refine k_actG E (fun M => tAir M x) (fun M => aBits (M.1 65 0 24 ||| b1 (tN x)) 16) (fun M => sI (clR M) 4 0 3 (M.1 65 0 24 ||| b1 (tN x))) (fun M => nAir M x) _ _ (by omega) (by omega) (fun n M h => c_air E 0 M (WI_CI h) (WI_RH h) x) (fun M hX hA => r_air E 0 M hX hA x) (fun M => ?_) (fun _ _ => rfl) (fun _ => rfl) (fun _ => rfl) (fun _ h => h) (fun _ h => h) (fun n M hn h h0 => ?_)
  · unfold tAir
    cases aSt M x <;> cases (aOn M (tN x) || !aMay M (tN x) (oN M (tN x))) <;> simp
  · have hC := WI_CI h
    have h8 := hC.1.1.2.1.2
    have q1 : aSt M x = true := by
      unfold tAir at h0
      cases q : aSt M x with
      | true => rfl
      | false => rw [q] at h0; cases h0
    obtain ⟨s, hs, rfl⟩ := aSt_at hC.1.1 q1
    have es : tN (nI s) = s := tN_nI (by omega)
    rw [es]
    generalize hw : M.1 65 0 24 ||| b1 s = w
    have e65 : ∀ k, (nAir (sI (sI (clR M) 4 0 3 w) 0 0 11 (nI 0)) (nI s)).1 65 0 k = if k = 24 then w else M.1 65 0 k := by
      intro k
      unfold nAir
      rw [es, sI_at, rem65]
      by_cases e : k = 24
      · rw [if_pos ⟨rfl, rfl, e⟩, if_pos e, ← hw]; rfl
      · rw [if_neg (fun z => e z.2.2), if_neg e]; rfl
    obtain ⟨n1, n2, n3⟩ := hC.2.2.2.2.1
    obtain ⟨v1, v2, v3⟩ := h.2.1.1.1
    refine WI_rem0 (M1 := sI (sI (clR M) 4 0 3 w) 0 0 11 (nI 0)) h hn _ (fun i r k q1 q2 => ?_) rfl rfl (fun i r k q => ?_) ?_ ⟨fun t ht => ?_, fun t ht => ?_, ?_⟩ (fun t ht => ⟨?_, ?_, ?_⟩) ?_ ?_
    · rw [sI_at, if_neg (by omega), sI_at, if_neg (by omega)]
    · unfold nAir
      rw [sI_at, if_neg (by omega)]
    · show (remM _).2 = _
      rw [remM_2]; rfl
    · rw [e65, if_neg (by omega)]; exact v1 t ht
    · rw [e65, if_neg (by omega)]; exact v2 t ht
    · rw [e65, if_pos rfl, ← hw]
      refine setLt8 h8 (fun i hi hb => ?_)
      rw [b_or, b1_at (by omega) hi, Bool.or_eq_true] at hb
      rcases hb with hb | hb
      · exact air_lt hC.2.1 hb
      · have := of_decide_eq_true hb
        omega
    · rw [e65, if_neg (by omega), sI_at, if_neg (by omega), sI_at, if_neg (by omega), clR_off _ (by omega) (by omega)]; exact (n3 t ht).1
    · rw [e65, if_neg (by omega), sI_at, if_neg (by omega), sI_at, if_neg (by omega), clR_off _ (by omega) (by omega)]; exact (n3 t ht).2.1
    · rw [e65, if_neg (by omega), sI_at, if_neg (by omega), sI_at, if_neg (by omega), clR_off _ (by omega) (by omega)]; exact (n3 t ht).2.2
    · rw [e65, if_pos rfl, sI_at, if_neg (by omega), sI_at, if_pos ⟨rfl, rfl, rfl⟩]
    · rw [e65, if_neg (by omega), sI_at, if_neg (by omega), sI_at, if_neg (by omega), clR_off _ (by omega) (by omega)]; exact n2
end K2
