/-! the class: cheapest, due, clock, pay -/
theorem and_0 (x : Int32) : x &&& nI 0 = nI 0 := b_ext fun i _ => by rw [b_and, b_0, Bool.and_false]
theorem chp_sub {sub fit : Nat → Bool} {w : Nat → Int32} : ∀ (n b : Nat), chp sub fit w n = some b → sub b = true
  | 0, b, h => by cases h
  | n + 1, b, h => by
    rw [chp] at h
    cases hc : chp sub fit w n with
    | none =>
      rw [hc] at h
      dsimp only at h
      cases e : (sub n && fit n)
      · rw [e] at h; cases h
      · rw [e] at h; cases h; rw [Bool.and_eq_true] at e; exact e.1
    | some b' =>
      rw [hc] at h
      dsimp only at h
      cases e : (sub n && (decide (w n < w b') && fit n))
      · rw [e] at h; cases h; exact chp_sub n b hc
      · rw [e] at h; cases h; rw [Bool.and_eq_true] at e; exact e.1
theorem chp_0 (B : Me) (m : Nat) : chp (fun k => subB k (B.1 65 0 24) && decide (nI k &&& nI 0 = nI 0)) (lefts B m) (wOf B) (aiN B + 1) = aChp B m := by
  unfold aChp
  congr 1
  funext k
  rw [decide_eq_true (and_0 _), Bool.and_true]
theorem chp_s (B : Me) (m s : Nat) (hs : s < 32) : chp (fun k => subB k (B.1 65 0 24) && decide (nI k &&& b1 s = nI 0)) (lefts B m) (wOf B) (aiN B + 1) = aChpW B m s := by
  unfold aChpW
  congr 1
  funext k
  congr 1
  cases hb : bt (nI k) s with
  | false => rw [decide_eq_true ((and_b1 hs).mpr hb)]; rfl
  | true => rw [decide_eq_false (fun e => by rw [(and_b1 hs).mp e] at hb; cases hb)]; rfl
theorem aChp_some {B : Me} (hB : RB B) (h8 : sN B ≤ 8) (m : Nat) : ∃ b, aChp B m = some b ∧ b ≤ aiN B ∧ subB b (B.1 65 0 24) = true := by
  have hp8 := pow_le8 h8
  have hai : aiN B < 256 := Nat.lt_of_lt_of_le hB.2 hp8
  cases hc : aChp B m with
  | some b =>
    refine ⟨b, rfl, ?_, chp_sub _ b hc⟩
    have := chp_lt _ b hc
    omega
  | none =>
    unfold aChp at hc
    rw [chp] at hc
    have hs : subB (aiN B) (B.1 65 0 24) = true := (subB_iff hai).mpr (fun t _ h => by rw [hB.1]; exact h)
    have hl : lefts B m (aiN B) = true := by
      unfold lefts
      have : B.1 65 0 24 &&& (nI (aiN B) ^^^ -(nI 1)) = nI 0 := by
        apply b_ext
        intro i hi
        rw [b_and, b_not hi, hB.1, b_0]
        cases bt (nI (aiN B)) i <;> rfl
      rw [this]
      exact aFit_0 B m
    cases hq : chp (fun k => subB k (B.1 65 0 24)) (lefts B m) (wOf B) (aiN B) with
    | none => rw [hq] at hc; dsimp only at hc; rw [hs, hl] at hc; cases hc
    | some b =>
      rw [hq] at hc
      dsimp only at hc
      cases e : (subB (aiN B) (B.1 65 0 24) && (decide (wOf B (aiN B) < wOf B b) && lefts B m (aiN B))) <;> rw [e] at hc <;> cases hc
theorem sub_lt {B : Me} (hB : RB B) {b : Nat} (hb : b < 256) (h : subB b (B.1 65 0 24) = true) : ∀ t, sN B ≤ t → t < 8 → bt (nI b) t = false := by
  intro t h1 h2
  cases hc : bt (nI b) t with
  | false => rfl
  | true => have := air_lt hB ((subB_iff hb).mp h t h2 hc); omega
section C6
variable (E : EV) (d : Nat) (M : Me)
theorem c_cheapest (hC : CI M) (n : Nat) (hK : KNm M n) (hn : n + 1 < 2000) (x y : Int32) : Mt E (d + 13) m_CS_cheapest [vP 0 0, vI x, vI y] M (CQs M (qCheap M x y) n) := by
  obtain ⟨hX, hB, hx, hW, hN, hA⟩ := id hC
  have h8 := hX.1.2.1.2
  have hp8 := pow_le8 h8
  have hai : aiN M < 256 := Nat.lt_of_lt_of_le hB.2 hp8
  generalize hQ : CQs M (qCheap M x y) n = Q
  refine Mt.go ok_CS_cheapest [22] 60 rfl ?_
  have f22 : ∀ a, a = (hT M && in3 y 1) → Wp E (d + 13) m_CS_cheapest 22 [some (vP 0 0), some (vI x), some (vI y), none] [vI (bI a), vP 0 0] M Q := by
    intro a ha
    refine go ok_CS_cheapest [81] 60 ?_
    refine xq d ok_CS_isChannel (c_isChannel E d M hC x) (by omega) ?_
    refine xc d ok_CS_isRefused (c_isRefused E d M a (aCh M x)) (by omega) ?_
    rintro r M1 ⟨rfl, rfl⟩
    cases a with
    | false =>
      refine And.intro (fun e => absurd (show nI 1 = nI 0 from e) (by decide)) (fun _ => ?_)
      rw [← hQ]
      exact cqs_no hK hn (by unfold qCheap; rw [if_pos ha.symm]; rfl)
    | true =>
      have hq1 : ¬ (hT M && in3 y 1) = false := by rw [← ha]; decide
      cases q2 : aCh M x with
      | false =>
        refine And.intro (fun e => absurd (show nI 1 = nI 0 from e) (by decide)) (fun _ => ?_)
        rw [← hQ]
        exact cqs_no hK hn (by unfold qCheap; rw [if_neg hq1, if_pos q2]; rfl)
      | true =>
        refine And.intro (fun _ => ?_) (fun e => absurd (show nI 0 = nI 0 from rfl) e)
        have ha2 := ha.symm
        rw [Bool.and_eq_true] at ha2
        obtain ⟨k, hk, rfl⟩ := in3_at (b := 1) (by omega) ha2.2
        obtain ⟨c, hc1, hc2, rfl⟩ := aCh_at hX.1 q2
        have hc10 := hX.1.1.2
        have hq2 : ¬ aCh M (nI c) = false := by rw [q2]; decide
        have hq : qCheap M (nI c) (nI k) = if nI k = nI 0 then ye (oI (aChp M c)) else ye (aWr (M.1 65 0) (oI (aChp M c)) (sN M)) := by
          unfold qCheap; rw [if_neg hq1, if_neg hq2, tN_nI (by omega)]
        have hC1 : CI (sI M 0 0 11 (nI 0)) := hC
        have hK1 : KNm (sI M 0 0 11 (nI 0)) n := hK
        refine xc (d + 2) ok_Packer_learn (c_learn E d _ n hC1 (sN_hT hC ha2.1) hK1 hn) (by omega) ?_
        rintro r M2 ⟨rfl, hF2, h02, hP2⟩
        refine xc (d + 12) ok_Market_leastToBuy (c_leastToBuy E d (B := sI M 0 0 11 (nI 0)) (n + 1) hC1 hF2 hP2 c (by omega) (nI 0)) (by omega) ?_
        rintro r M3 ⟨rfl, hF3, hP3⟩
        rw [chp_0 (sI M 0 0 11 (nI 0)) c]
        have hFM : FC M M3 := (FC_sI (FC.rf M) rfl).tr hF3
        obtain ⟨b, hb1, hb2, hb3⟩ := aChp_some hB h8 c
        have hbo : oI (aChp (sI M 0 0 11 (nI 0)) c) = nI b := by rw [show aChp (sI M 0 0 11 (nI 0)) c = aChp M c from rfl, hb1]; rfl
        rw [hbo]
        rw [hb1] at hq
        have fin : ∀ v, qCheap M (nI c) (nI k) = ye v → Wp E (d + 13) m_CS_cheapest 81 [some (vP 0 0), some (vI (nI c)), some (vI (nI k)), some (vI (nI b))] [vI v, vP 0 0] M3 Q := by
          intro v e
          refine go ok_CS_cheapest [] 60 ?_
          refine x_cans E _ _ (by omega) ?_
          rw [← hQ]
          exact cqs_ye hFM hP3.2.2.1 e
        refine cNe (by omega) (by omega) (fun k0 => ?_) (fun k0 => ?_)
        · obtain ⟨hRN, hNN, hsn⟩ := fc_CI hFM hC
          refine xq (d + 1) ok_Now_worthOf (c_worthOf E d M3 hRN hNN (nI b) (fun t t1 t2 => sub_lt hB (by omega) hb3 t (by rw [← hsn]; exact t1) t2)) (by omega) ?_
          have ew : aWr (M3.1 65 0) (nI b) (sN M3) = aWr (M.1 65 0) (nI b) (sN M) := by rw [FC_eq hFM]; rfl
          rw [ew]
          exact fin _ (by rw [hq, if_neg (nI_dne (by omega) (by omega) k0)]; rfl)
        · exact fin _ (by rw [hq, k0, if_pos rfl]; rfl)
  refine xq d ok_CS_hasText (c_hasText E d M hC) (by omega) ?_
  refine brF (fun q => ?_) (fun q => ?_)
  · exact f22 false (by rw [q]; rfl)
  · refine And.intro (fun w => ?_) (fun w => ?_)
    · exact f22 false (by rw [in3_no w, Bool.and_false])
    · obtain ⟨k, hk, rfl⟩ := nneg (Int32.not_lt.mp w)
      refine cLt (by omega) hk (fun u => ?_) (fun u => ?_)
      · exact f22 false (by rw [in3_no2 hk (by omega) u, Bool.and_false])
      · exact f22 true (by rw [q, in3_ye hk (by omega) u]; rfl)
theorem c_due (hC : CI M) (n : Nat) (hK : KNm M n) (hn : n + 1 < 2000) (x y : Int32) : Mt E (d + 13) m_CS_due [vP 0 0, vI x, vI y] M (CQs M (qDue M x y) n) := by
  obtain ⟨hX, hB, hx, hW, hN, hA⟩ := id hC
  have h8 := hX.1.2.1.2
  have hp8 := pow_le8 h8
  have hai : aiN M < 256 := Nat.lt_of_lt_of_le hB.2 hp8
  generalize hQ : CQs M (qDue M x y) n = Q
  refine Mt.go ok_CS_due [61] 60 rfl ?_
  refine xq d ok_CS_isStation (c_isStation E d M hC y) (by omega) ?_
  refine xq d ok_CS_isChannel (c_isChannel E d M hC x) (by omega) ?_
  refine xc d ok_CS_isRefused (c_isRefused E d M (aSt M y) (aCh M x)) (by omega) ?_
  rintro r M1 ⟨rfl, rfl⟩
  cases q1 : aSt M y with
  | false =>
    refine And.intro (fun e => absurd (show nI 1 = nI 0 from e) (by decide)) (fun _ => ?_)
    rw [← hQ]
    exact cqs_no hK hn (by unfold qDue; rw [if_pos q1]; rfl)
  | true =>
    have hq1 : ¬ aSt M y = false := by rw [q1]; decide
    cases q2 : aCh M x with
    | false =>
      refine And.intro (fun e => absurd (show nI 1 = nI 0 from e) (by decide)) (fun _ => ?_)
      rw [← hQ]
      exact cqs_no hK hn (by unfold qDue; rw [if_neg hq1, if_pos q2]; rfl)
    | true =>
      refine And.intro (fun _ => ?_) (fun e => absurd (show nI 0 = nI 0 from rfl) e)
      obtain ⟨s, hs, rfl⟩ := aSt_at hX.1 q1
      obtain ⟨c, hc1, hc2, rfl⟩ := aCh_at hX.1 q2
      have hc10 := hX.1.1.2
      have hq2 : ¬ aCh M (nI c) = false := by rw [q2]; decide
      obtain ⟨b, hb1, hb2, hb3⟩ := aChp_some hB h8 c
      have hC1 : CI (sI M 0 0 11 (nI 0)) := hC
      have hK1 : KNm (sI M 0 0 11 (nI 0)) n := hK
      refine xc (d + 2) ok_Packer_learn (c_learn E d _ n hC1 (sN_aSt hC q1) hK1 hn) (by omega) ?_
      rintro r M2 ⟨rfl, hF2, h02, hP2⟩
      refine xc (d + 12) ok_Market_leastToBuy (c_leastToBuy E d (B := sI M 0 0 11 (nI 0)) (n + 1) hC1 hF2 hP2 c (by omega) (nI 0)) (by omega) ?_
      rintro r M3 ⟨rfl, hF3, hP3⟩
      rw [chp_0 (sI M 0 0 11 (nI 0)) c]
      have hFM : FC M M3 := (FC_sI (FC.rf M) rfl).tr hF3
      have hbo : oI (aChp (sI M 0 0 11 (nI 0)) c) = nI b := by rw [show aChp (sI M 0 0 11 (nI 0)) c = aChp M c from rfl, hb1]; rfl
      rw [hbo]
      refine And.intro (fun e => absurd e (nI_ne_m (show b < 2 ^ 31 by omega) (by omega) (by omega))) (fun _ => ?_)
      refine xq d ok_CS_has (c_has E d M3 (nI b) s (by omega)) (by omega) ?_
      refine brN (fun qb => ?_) (fun qb => ?_)
      · have hq : qDue M (nI c) (nI s) = match aChpW M c s with
          | none => no 6
          | some b' => ye (wOf M b' - aWr (M.1 65 0) (nI b &&& (b1 s ^^^ -(nI 1))) (sN M)) := by
          unfold qDue
          rw [if_neg hq1, if_neg hq2, tN_nI (show c < 2 ^ 31 by omega), tN_nI (show s < 2 ^ 31 by omega), hb1, if_neg (by rw [show oI (some b) = nI b from rfl, qb]; decide)]
          rfl
        refine xq d ok_CS_bit (c_bit E d M3 s) (by omega) ?_
        refine xc (d + 12) ok_Market_leastToBuy (c_leastToBuy E d (B := sI M 0 0 11 (nI 0)) (n + 1) hC1 hF3 hP3 c (by omega) (b1 s)) (by omega) ?_
        rintro r M4 ⟨rfl, hF4, hP4⟩
        rw [chp_s (sI M 0 0 11 (nI 0)) c s (by omega), show aChpW (sI M 0 0 11 (nI 0)) c s = aChpW M c s from rfl]
        have hFM4 : FC M M4 := (FC_sI (FC.rf M) rfl).tr hF4
        cases hcw : aChpW M c s with
        | none =>
          rw [hcw] at hq
          refine And.intro (fun e => absurd rfl e) (fun _ => ?_)
          refine x_cref E _ (nI 6) (by omega) ?_
          rw [← hQ]
          exact cqs_no2 hFM4 hP4.2.2.1 hq
        | some b' =>
          rw [hcw] at hq
          have hbl : b' < aiN M + 1 := chp_lt _ b' hcw
          have hbs := chp_sub _ b' hcw
          rw [Bool.and_eq_true] at hbs
          refine And.intro (fun _ => ?_) (fun e => absurd e (nI_ne_m (show b' < 2 ^ 31 by omega) (by omega) (by omega)))
          obtain ⟨hRN, hNN, hsn⟩ := fc_CI hFM4 hC
          refine xq (d + 1) ok_Now_worthOf (c_worthOf E d M4 hRN hNN (nI b') (fun t t1 t2 => sub_lt hB (by omega) hbs.1 t (by rw [← hsn]; exact t1) t2)) (by omega) ?_
          refine xq d ok_CS_bit (c_bit E d M4 s) (by omega) ?_
          refine xq (d + 1) ok_Now_worthOf (c_worthOf E d M4 hRN hNN (nI b &&& (b1 s ^^^ -(nI 1))) (fun t t1 t2 => by
            rw [b_and, sub_lt hB (by omega) hb3 t (by rw [← hsn]; exact t1) t2]; rfl)) (by omega) ?_
          refine x_cans E _ _ (by omega) ?_
          rw [← hQ]
          refine cqs_ye hFM4 hP4.2.2.1 ?_
          rw [hq, FC_eq hFM4]; rfl
      · refine go ok_CS_due [] 60 ?_
        refine x_cans E _ _ (by omega) ?_
        rw [← hQ]
        refine cqs_ye hFM hP3.2.2.1 ?_
        unfold qDue
        rw [if_neg hq1, if_neg hq2, tN_nI (show c < 2 ^ 31 by omega), tN_nI (show s < 2 ^ 31 by omega), hb1, if_pos (by exact qb)]
theorem c_clock (hC : CI M) (hV : RVl M) (n : Nat) (hK : KNm M n) (hn : n + 1 < 2000) (x y z w : Int32) : Mt E (d + 14) m_CS_clock [vP 0 0, vI x, vI y, vI z, vI w] M (CQs M (qClock M x y z w) n) := by
  obtain ⟨hX, hB, hx, hW, hN, hA⟩ := id hC
  have h8 := hX.1.2.1.2
  generalize hQ : CQs M (qClock M x y z w) n = Q
  refine Mt.go ok_CS_clock [24] 60 rfl ?_
  have f24 : ∀ a, a = (hT M && in3 w 4) → Wp E (d + 14) m_CS_clock 24 [some (vP 0 0), some (vI x), some (vI y), some (vI z), some (vI w)] [vI (bI a), vP 0 0] M Q := by
    intro a ha
    refine go ok_CS_clock [] 60 ?_
    refine xq (d + 1) ok_CS_isClock (c_isClock E d M hC x y z) (by omega) ?_
    refine xc d ok_CS_isRefused (c_isRefused E d M a (aCk M x y z)) (by omega) ?_
    rintro r M1 ⟨rfl, rfl⟩
    cases a with
    | false =>
      refine And.intro (fun e => absurd (show nI 1 = nI 0 from e) (by decide)) (fun _ => ?_)
      rw [← hQ]
      exact cqs_no hK hn (by unfold qClock; rw [if_pos ha.symm]; rfl)
    | true =>
      have hq1 : ¬ (hT M && in3 w 4) = false := by rw [← ha]; decide
      cases q2 : aCk M x y z with
      | false =>
        refine And.intro (fun e => absurd (show nI 1 = nI 0 from e) (by decide)) (fun _ => ?_)
        rw [← hQ]
        exact cqs_no hK hn (by unfold qClock; rw [if_neg hq1, if_pos q2]; rfl)
      | true =>
        refine And.intro (fun _ => ?_) (fun e => absurd (show nI 0 = nI 0 from rfl) e)
        have ha2 := ha.symm
        rw [Bool.and_eq_true] at ha2
        obtain ⟨k, hk, rfl⟩ := in3_at (b := 4) (by omega) ha2.2
        obtain ⟨c, P, st, ⟨hc1, hc2⟩, hP9, ⟨hs1, hs9⟩, rfl, rfl, rfl⟩ := aCk_at hX.1 q2
        have hc10 := hX.1.1.2
        have hq2 : ¬ aCk M (nI c) (nI P) (nI st) = false := by rw [q2]; decide
        have hq : qClock M (nI c) (nI P) (nI st) (nI k) = if nI k = nI 0 then ye (nI (aClk M c P st).1) else if nI k = nI 1 then ye (aClk M c P st).2.2.1 else if nI k = nI 2 then ye (aClk M c P st).2.2.2.1 else if nI k = nI 3 then ye (aClk M c P st).2.1 else ye (cPr M (aClk M c P st)) := by
          unfold qClock; rw [if_neg hq1, if_neg hq2, tN_nI (show c < 2 ^ 31 by omega), tN_nI (show P < 2 ^ 31 by omega), tN_nI (show st < 2 ^ 31 by omega)]
        have hC1 : CI (sI M 0 0 11 (nI 0)) := hC
        have hK1 : KNm (sI M 0 0 11 (nI 0)) n := hK
        have hV1 : RVl (sI M 0 0 11 (nI 0)) := hV
        refine xc (d + 2) ok_Packer_learn (c_learn E d _ n hC1 (sN_hT hC ha2.1) hK1 hn) (by omega) ?_
        rintro r M2 ⟨rfl, hF2, h02, hP2⟩
        refine xc (d + 13) ok_Market_runClock (c_runClock E d (B := sI M 0 0 11 (nI 0)) (n + 1) hC1 hV1 hF2 hP2 c (by omega) P st hP9 hs1 hs9) (by omega) ?_
        rintro r M3 ⟨rfl, hF3, hP3, h03, m2, m5, mk⟩
        have hFM : FC M M3 := (FC_sI (FC.rf M) rfl).tr hF3
        have ecl : aClk (sI M 0 0 11 (nI 0)) c P st = aClk M c P st := rfl
        rw [ecl] at m2 m5 mk
        have fin : ∀ v, qClock M (nI c) (nI P) (nI st) (nI k) = ye v → Q (some (vI v)) (sI M3 0 0 11 (nI 0)) := by
          intro v e
          rw [← hQ]
          exact cqs_ye hFM hP3.2.2.1 e
        refine And.intro (fun o => ?_) (And.intro (fun e => ?_) (And.intro (fun e => ?_) (And.intro (fun e => ?_) (And.intro (fun e => ?_) trivial))))
        · have k4 : k = 4 := by
            rcases o with o | o
            · have := (nI_ltI (by omega) (by omega)).mp o; omega
            · have := (nI_ltI (by omega) (by omega)).mp o; omega
          subst k4
          have hz := okZ_go (fit := fun x => aFit M x c) (w := fun t => M.1 65 0 (8 + t)) (n := sN M) (st := st) (by omega) (P + 1) P (z0 (M.1 65 0 24)) 0 ⟨fun i hi hb => air_lt hB hb, fun i hi hb => by rw [show (z0 (M.1 65 0 24)).2.1 = nI 0 from rfl, b_0] at hb; exact absurd hb (by decide), fun i hi hb => by rw [show (z0 (M.1 65 0 24)).2.2.1 = nI 0 from rfl, b_0] at hb; exact absurd hb (by decide), fun t _ => rfl⟩
          have hz : okZ (sN M) (aClk M c P st).2 := hz
          refine xq (d + 1) ok_Market_frozenPrices (c_frozenPrices E d (aClk M c P st).2.2.2.1 (clP (aClk M c P st)) mk.2.1 (fun t ht hb => ?_) (sN M) h8 (fun t t1 t2 => ?_)) (by omega) ?_
          · rw [mk.2.2 t ht, hb]
            unfold clP
            rw [(hz.2.2.1 t (by omega) hb).2]; rfl
          · cases hb : bt (aClk M c P st).2.2.2.1 t with
            | false => rfl
            | true => have := (hz.2.2.1 t (by omega) hb).1; omega
          · refine x_cans E _ _ (by omega) (fin _ ?_)
            rw [hq, if_neg (by decide), if_neg (by decide), if_neg (by decide), if_neg (by decide)]; rfl
        · refine x_cans E _ _ (by omega) (fin _ ?_)
          rw [hq, if_pos e]; exact congrArg ye m2.symm
        · refine x_cans E _ _ (by omega) (fin _ ?_)
          rw [e] at hq ⊢
          rw [hq, if_neg (by decide), if_pos (by decide)]; exact congrArg ye mk.1.symm
        · refine x_cans E _ _ (by omega) (fin _ ?_)
          rw [e] at hq ⊢
          rw [hq, if_neg (by decide), if_neg (by decide), if_pos (by decide)]; exact congrArg ye mk.2.1.symm
        · refine x_cans E _ _ (by omega) (fin _ ?_)
          rw [e] at hq ⊢
          rw [hq, if_neg (by decide), if_neg (by decide), if_neg (by decide), if_pos (by decide)]; exact congrArg ye m5.symm
  refine xq d ok_CS_hasText (c_hasText E d M hC) (by omega) ?_
  refine brF (fun q => ?_) (fun q => ?_)
  · exact f24 false (by rw [q]; rfl)
  · refine And.intro (fun v => ?_) (fun v => ?_)
    · exact f24 false (by rw [in3_no v, Bool.and_false])
    · obtain ⟨k, hk, rfl⟩ := nneg (Int32.not_lt.mp v)
      refine cLt (by omega) hk (fun u => ?_) (fun u => ?_)
      · exact f24 false (by rw [in3_no2 hk (by omega) u, Bool.and_false])
      · exact f24 true (by rw [q, in3_ye hk (by omega) u]; rfl)
theorem c_pay (hC : CI M) (hV : RVl M) (n : Nat) (hK : KNm M n) (hn : n + 1 < 2000) (x y z w : Int32) : Mt E (d + 14) m_CS_pay [vP 0 0, vI x, vI y, vI z, vI w] M (CQs M (qPay M x y z w) n) := by
  obtain ⟨hX, hB, hx, hW, hN, hA⟩ := id hC
  have h8 := hX.1.2.1.2
  generalize hQ : CQs M (qPay M x y z w) n = Q
  refine Mt.go ok_CS_pay [90] 60 rfl ?_
  refine xq d ok_CS_isStation (c_isStation E d M hC w) (by omega) ?_
  refine xq (d + 1) ok_CS_isClock (c_isClock E d M hC x y z) (by omega) ?_
  refine xc d ok_CS_isRefused (c_isRefused E d M (aSt M w) (aCk M x y z)) (by omega) ?_
  rintro r M1 ⟨rfl, rfl⟩
  cases q1 : aSt M w with
  | false =>
    refine And.intro (fun e => absurd (show nI 1 = nI 0 from e) (by decide)) (fun _ => ?_)
    rw [← hQ]
    exact cqs_no hK hn (by unfold qPay; rw [if_pos q1]; rfl)
  | true =>
    have hq1 : ¬ aSt M w = false := by rw [q1]; decide
    cases q2 : aCk M x y z with
    | false =>
      refine And.intro (fun e => absurd (show nI 1 = nI 0 from e) (by decide)) (fun _ => ?_)
      rw [← hQ]
      exact cqs_no hK hn (by unfold qPay; rw [if_neg hq1, if_pos q2]; rfl)
    | true =>
      refine And.intro (fun _ => ?_) (fun e => absurd (show nI 0 = nI 0 from rfl) e)
      obtain ⟨s, hs, rfl⟩ := aSt_at hX.1 q1
      obtain ⟨c, P, st, ⟨hc1, hc2⟩, hP9, ⟨hs1, hs9⟩, rfl, rfl, rfl⟩ := aCk_at hX.1 q2
      have hc10 := hX.1.1.2
      have hq2 : ¬ aCk M (nI c) (nI P) (nI st) = false := by rw [q2]; decide
      have hq : qPay M (nI c) (nI P) (nI st) (nI s) = ye (clP (aClk M c P st) s) := by
        unfold qPay; rw [if_neg hq1, if_neg hq2, tN_nI (show c < 2 ^ 31 by omega), tN_nI (show P < 2 ^ 31 by omega), tN_nI (show st < 2 ^ 31 by omega), tN_nI (show s < 2 ^ 31 by omega)]
      have hC1 : CI (sI M 0 0 11 (nI 0)) := hC
      have hK1 : KNm (sI M 0 0 11 (nI 0)) n := hK
      have hV1 : RVl (sI M 0 0 11 (nI 0)) := hV
      refine xc (d + 2) ok_Packer_learn (c_learn E d _ n hC1 (sN_aSt hC q1) hK1 hn) (by omega) ?_
      rintro r M2 ⟨rfl, hF2, h02, hP2⟩
      refine xc (d + 13) ok_Market_runClock (c_runClock E d (B := sI M 0 0 11 (nI 0)) (n + 1) hC1 hV1 hF2 hP2 c (by omega) P st hP9 hs1 hs9) (by omega) ?_
      rintro r M3 ⟨rfl, hF3, hP3, h03, m2, m5, mk⟩
      have hFM : FC M M3 := (FC_sI (FC.rf M) rfl).tr hF3
      have ecl : aClk (sI M 0 0 11 (nI 0)) c P st = aClk M c P st := rfl
      rw [ecl] at m2 m5 mk
      have hz := okZ_go (fit := fun x => aFit M x c) (w := fun t => M.1 65 0 (8 + t)) (n := sN M) (st := st) (by omega) (P + 1) P (z0 (M.1 65 0 24)) 0 ⟨fun i hi hb => air_lt hB hb, fun i hi hb => by rw [show (z0 (M.1 65 0 24)).2.1 = nI 0 from rfl, b_0] at hb; exact absurd hb (by decide), fun i hi hb => by rw [show (z0 (M.1 65 0 24)).2.2.1 = nI 0 from rfl, b_0] at hb; exact absurd hb (by decide), fun t _ => rfl⟩
      have hz : okZ (sN M) (aClk M c P st).2 := hz
      have fin : ∀ v, v = clP (aClk M c P st) s → Wp E (d + 14) m_CS_pay 90 [some (vP 0 0), some (vI (nI c)), some (vI (nI P)), some (vI (nI st)), some (vI (nI s))] [vI v, vP 0 0] M3 Q := by
        rintro v rfl
        refine go ok_CS_pay [] 60 ?_
        refine x_cans E _ _ (by omega) ?_
        rw [← hQ]
        exact cqs_ye hFM hP3.2.2.1 hq
      refine xq d ok_CS_has (c_has E d M3 _ s (by omega)) (by omega) ?_
      have eo : bt (M3.1 21 0 4 ||| M3.1 21 0 5) s = (bt (aClk M c P st).2.2.2.1 s || bt (aClk M c P st).2.1 s) := by rw [b_or, mk.2.1, m5]
      rw [eo]
      refine brF (fun q => ?_) (fun q => ?_)
      · rw [Bool.or_eq_false_iff] at q
        refine fin _ ?_
        unfold clP
        rw [q.2, hz.2.2.2 s q.1]; rfl
      · refine ix s (show _ < 8 by omega) rfl ?_
        refine fin _ ?_
        have em := mk.2.2 s (by omega)
        refine em.trans ?_
        unfold clP
        cases hb : bt (aClk M c P st).2.2.2.1 s with
        | true => rw [(hz.2.2.1 s (by omega) hb).2]; rfl
        | false =>
          rw [hb, Bool.false_or] at q
          rw [q]; rfl
end C6
