/-! the class: squeeze, squeezeOf -/
def SqN (B : Me) (n m : Nat) (r : Option AV) (M' : Me) : Prop := FC B M' ∧ PU B M' (n + 1) ∧ M'.1 0 = B.1 0 ∧ ((r = some (vI (nI 0)) ∧ aSq B m = none) ∨ (r = some (vI (nI 1)) ∧ ∃ ρ, aSq B m = some ρ ∧ (∀ t, t < 8 → aS B t = true → M'.1 24 0 t = nI (ρ t) ∧ 1 ≤ ρ t ∧ ρ t ≤ 10) ∧ (∀ t, t < 8 → aS B t = false → M'.1 24 0 t = B.1 5 0 t) ∧ M'.1 23 0 4 = S32 (mvb (aS B) (oN B) ρ)))
theorem mvb_sm {B : Me} (hB : RB B) (h8 : sN B ≤ 8) (o ρ : Nat → Nat) : isSm (S32 (mvb (aS B) o ρ)) := isSm_of fun i i1 i2 => by
  rw [S32_at i2]
  unfold mvb
  cases h : aS B i with
  | false => rfl
  | true => have := air_lt hB h; omega
theorem mvb_bits {B : Me} (hB : RB B) (h8 : sN B ≤ 8) (o ρ : Nat → Nat) : aBits (S32 (mvb (aS B) o ρ)) 16 = nI (cq (aS B) o (sN B) ρ) := by
  rw [bits8 (mvb_sm hB h8 o ρ)]
  unfold cq
  rw [mvC_sum, cs8_n h8 (fun t ht => by
    unfold mvb
    cases h : aS B t with
    | false => rfl
    | true => have := air_lt hB h; omega)]
  congr 1
  exact cs8_cg (fun t ht => S32_at (by omega))
section S3
variable (E : EV) (d : Nat)
theorem c_squeezeNow (B : Me) (n : Nat) (hC : CI B) (hs0 : 0 < sN B) (hK : KNm B n) (hn : n + 1 < 2000) (m : Nat) (hm : m ≤ 10) : Mt E (d + 14) m_CS_squeezeNow [vP 0 0, vI (nI m)] B (SqN B n m) := by
  obtain ⟨hX, hB, hx, hW, hN, hA⟩ := id hC
  have h8 := hX.1.2.1.2
  refine Mt.go ok_CS_squeezeNow [] 60 rfl ?_
  refine xc (d + 2) ok_Packer_learn (c_learn E d B n hC hs0 hK hn) (by omega) ?_
  rintro r M2 ⟨rfl, hF2, h02, hP2⟩
  have hair : M2.1 4 0 3 = B.1 65 0 24 := by rw [hF2.1 4 0 3 rfl, hN.1]
  have hx := c_findRow E d (n + 1) hC hF2 hP2 5 (Or.inl rfl) m hm (oN B) (fun t ht hS => by
    have hts := air_lt hB hS
    obtain ⟨o1, o2, o3⟩ := hX.1.2.2.2 t hts
    rw [hF2.1 5 0 t rfl, (hN.2.2 t hts).1]
    exact ⟨o1, o2, o3⟩)
  rw [← hair] at hx
  refine xc (d + 13) ok_Squeezer_findRow hx (by omega) ?_
  rintro r M3 ⟨f1, f2, f3, f4, f5, f6⟩
  rcases f6 with ⟨rfl, f6⟩ | ⟨rfl, ρ, g1, g2, g3, g4⟩
  · exact And.intro (Or.inl rfl) ⟨f1, f2, by rw [f3, h02], Or.inl ⟨rfl, f6⟩⟩
  · exact And.intro (Or.inr rfl) ⟨f1, f2, by rw [f3, h02], Or.inr ⟨rfl, ρ, g1, g2, fun t ht hS => by rw [g3 t ht hS, hF2.1 5 0 t rfl], g4⟩⟩
variable (M : Me)
theorem c_squeeze (hC : CI M) (n : Nat) (hK : KNm M n) (hn : n + 1 < 2000) (x : Int32) : Mt E (d + 15) m_CS_squeeze [vP 0 0, vI x] M (CQs M (qSqueeze M x) n) := by
  obtain ⟨hX, hB, hx, hW, hN, hA⟩ := id hC
  have h8 := hX.1.2.1.2
  generalize hQ : CQs M (qSqueeze M x) n = Q
  refine Mt.go ok_CS_squeeze [42] 60 rfl ?_
  refine xq d ok_CS_hasText (c_hasText E d M hC) (by omega) ?_
  refine xq d ok_CS_isChannel (c_isChannel E d M hC x) (by omega) ?_
  refine xc d ok_CS_isRefused (c_isRefused E d M (hT M) (aCh M x)) (by omega) ?_
  rintro r M1 ⟨rfl, rfl⟩
  cases q1 : hT M with
  | false =>
    refine And.intro (fun e => absurd (show nI 1 = nI 0 from e) (by decide)) (fun _ => ?_)
    rw [← hQ]
    exact cqs_no hK hn (by unfold qSqueeze; rw [if_pos q1]; rfl)
  | true =>
    have hq1 : ¬ hT M = false := by rw [q1]; decide
    cases q2 : aCh M x with
    | false =>
      refine And.intro (fun e => absurd (show nI 1 = nI 0 from e) (by decide)) (fun _ => ?_)
      rw [← hQ]
      exact cqs_no hK hn (by unfold qSqueeze; rw [if_neg hq1, if_pos q2]; rfl)
    | true =>
      refine And.intro (fun _ => ?_) (fun e => absurd (show nI 0 = nI 0 from rfl) e)
      obtain ⟨c, hc1, hc2, rfl⟩ := aCh_at hX.1 q2
      have hc10 := hX.1.1.2
      have hq2 : ¬ aCh M (nI c) = false := by rw [q2]; decide
      have hq : qSqueeze M (nI c) = match aSq M c with
        | none => ye (-(nI 2))
        | some r => ye (nI (cq (aS M) (oN M) (sN M) r)) := by
        unfold qSqueeze; rw [if_neg hq1, if_neg hq2, tN_nI (by omega)]; rfl
      have hC1 : CI (sI M 0 0 11 (nI 0)) := hC
      have hK1 : KNm (sI M 0 0 11 (nI 0)) n := hK
      refine xc (d + 14) ok_CS_squeezeNow (c_squeezeNow E d (sI M 0 0 11 (nI 0)) n hC1 (sN_hT hC q1) hK1 hn c (by omega)) (by omega) ?_
      rintro r M3 ⟨f1, f2, f3, f4⟩
      have hFM : FC M M3 := (FC_sI (FC.rf M) rfl).tr f1
      have fin : ∀ v, qSqueeze M (nI c) = ye v → Wp E (d + 15) m_CS_squeeze 42 [some (vP 0 0), some (vI (nI c))] [vI v, vP 0 0] M3 Q := by
        intro v e
        refine go ok_CS_squeeze [] 60 ?_
        refine x_cans E _ _ (by omega) ?_
        rw [← hQ]
        exact cqs_ye hFM f2.2.2.1 e
      rcases f4 with ⟨rfl, f4⟩ | ⟨rfl, ρ, g1, g2, g3, g4⟩
      · refine And.intro (fun _ => ?_) (fun e => absurd rfl e)
        have f4 : aSq M c = none := f4
        rw [f4] at hq
        exact fin _ hq
      · refine And.intro (fun e => absurd e (by decide)) (fun _ => ?_)
        have g1 : aSq M c = some ρ := g1
        have g4 : M3.1 23 0 4 = S32 (mvb (aS M) (oN M) ρ) := g4
        rw [g1] at hq
        have hx := c_bitCountS E d M3 (mvb_sm hB h8 (oN M) ρ)
        rw [mvb_bits hB h8, ← g4] at hx
        refine xq d ok_Integer_bitCount hx (by omega) ?_
        exact fin _ hq
theorem c_squeezeOf (hC : CI M) (n : Nat) (hK : KNm M n) (hn : n + 1 < 2000) (x y : Int32) : Mt E (d + 15) m_CS_squeezeOf [vP 0 0, vI x, vI y] M (CQs M (qSqueezeOf M x y) n) := by
  obtain ⟨hX, hB, hx, hW, hN, hA⟩ := id hC
  have h8 := hX.1.2.1.2
  generalize hQ : CQs M (qSqueezeOf M x y) n = Q
  refine Mt.go ok_CS_squeezeOf [] 60 rfl ?_
  refine xq d ok_CS_isStation (c_isStation E d M hC y) (by omega) ?_
  refine xq d ok_CS_isChannel (c_isChannel E d M hC x) (by omega) ?_
  refine xc d ok_CS_isRefused (c_isRefused E d M (aSt M y) (aCh M x)) (by omega) ?_
  rintro r M1 ⟨rfl, rfl⟩
  cases q1 : aSt M y with
  | false =>
    refine And.intro (fun e => absurd (show nI 1 = nI 0 from e) (by decide)) (fun _ => ?_)
    rw [← hQ]
    exact cqs_no hK hn (by unfold qSqueezeOf; rw [if_pos q1]; rfl)
  | true =>
    have hq1 : ¬ aSt M y = false := by rw [q1]; decide
    cases q2 : aCh M x with
    | false =>
      refine And.intro (fun e => absurd (show nI 1 = nI 0 from e) (by decide)) (fun _ => ?_)
      rw [← hQ]
      exact cqs_no hK hn (by unfold qSqueezeOf; rw [if_neg hq1, if_pos q2]; rfl)
    | true =>
      refine And.intro (fun _ => ?_) (fun e => absurd (show nI 0 = nI 0 from rfl) e)
      obtain ⟨c, hc1, hc2, rfl⟩ := aCh_at hX.1 q2
      obtain ⟨s, hs, rfl⟩ := aSt_at hX.1 q1
      have hc10 := hX.1.1.2
      have hq2 : ¬ aCh M (nI c) = false := by rw [q2]; decide
      have hq : qSqueezeOf M (nI c) (nI s) = match aSq M c with
        | none => no 6
        | some r => ye (nI (bq (aS M) (oN M) r s)) := by
        unfold qSqueezeOf; rw [if_neg hq1, if_neg hq2, tN_nI (show c < 2 ^ 31 by omega), tN_nI (show s < 2 ^ 31 by omega)]; rfl
      have hC1 : CI (sI M 0 0 11 (nI 0)) := hC
      have hK1 : KNm (sI M 0 0 11 (nI 0)) n := hK
      refine xc (d + 14) ok_CS_squeezeNow (c_squeezeNow E d (sI M 0 0 11 (nI 0)) n hC1 (sN_aSt hC q1) hK1 hn c (by omega)) (by omega) ?_
      rintro r M3 ⟨f1, f2, f3, f4⟩
      have hFM : FC M M3 := (FC_sI (FC.rf M) rfl).tr f1
      rcases f4 with ⟨rfl, f4⟩ | ⟨rfl, ρ, g1, g2, g3, g4⟩
      · refine And.intro (fun e => absurd rfl e) (fun _ => ?_)
        have f4 : aSq M c = none := f4
        rw [f4] at hq
        refine x_cref E _ (nI 6) (by omega) ?_
        rw [← hQ]
        exact cqs_no2 hFM f2.2.2.1 hq
      · refine And.intro (fun _ => ?_) (fun e => absurd e (by decide))
        have g1 : aSq M c = some ρ := g1
        rw [g1] at hq
        refine ix s (show _ < 8 by omega) rfl ?_
        refine x_cans E _ _ (by omega) ?_
        rw [← hQ]
        refine cqs_ye hFM f2.2.2.1 ?_
        rw [hq]
        unfold bq
        cases hS : aS M s with
        | true => exact congrArg ye (g2 s (by omega) hS).1.symm
        | false =>
          have := g3 s (by omega) hS
          show ye (nI (oN M s)) = ye (M3.1 24 0 s)
          refine congrArg ye ?_
          rw [this]
          show nI (oN M s) = M.1 5 0 s
          rw [(hN.2.2 s hs).1, (hX.1.2.2.2 s hs).1]
end S3
