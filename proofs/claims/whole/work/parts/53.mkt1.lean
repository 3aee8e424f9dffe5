/-! the class: the market -/
theorem fc_CI {B N : Me} (h : FC B N) (hC : CI B) : RW N ∧ CWn N ∧ sN N = sN B := ⟨(CI_fc h hC).1.1, (CI_fc h hC).2.2.2.2.1, fc_sN h⟩
def MK (N : Me) (z : C4) : Prop := N.1 21 0 3 = z.2.1 ∧ N.1 21 0 4 = z.2.2.1 ∧ ∀ t, t < 8 → N.1 22 0 t = (bif bt z.2.2.1 t then z.2.2.2 t else nI 0)
theorem MK_fp {N N' : Me} {z : C4} (h : FP N N') (hM : MK N z) : MK N' z := ⟨(h.1 21 0 3 (by omega) (by omega)).trans hM.1, (h.1 21 0 4 (by omega) (by omega)).trans hM.2.1, fun t ht => (h.1 22 0 t (by omega) (by omega)).trans (hM.2.2 t ht)⟩
theorem PU_o {B N N' : Me} {n : Nat} (hP : PU B N n) (h : ∀ i, 14 ≤ i → (i ≤ 20 ∨ i = 27) → N'.1 i = N.1 i) : PU B N' n := by
  obtain ⟨p1, p2, ⟨k1, a, ⟨k2, kd⟩, k3, k4⟩, p4, p5⟩ := hP
  refine ⟨fun s hs => by rw [h 15 (by omega) (by omega)]; exact p1 s hs, fun s hs => by rw [h 16 (by omega) (by omega), h 17 (by omega) (by omega)]; exact p2 s hs, ⟨k1, a, ⟨by rw [h 14 (by omega) (by omega)]; exact k2, KNd_fr (by rw [h 14 (by omega) (by omega)]) (by rw [h 16 (by omega) (by omega)]) (by rw [h 17 (by omega) (by omega)]) (by rw [h 27 (by omega) (by omega)]) kd⟩, k3, fun k hk => ?_⟩, ?_, by rw [h 14 (by omega) (by omega)]; exact p5⟩
  · rw [h 20 (by omega) (by omega), h 15 (by omega) (by omega), h 16 (by omega) (by omega), h 17 (by omega) (by omega)]
    exact k4 k hk
  · unfold Kage
    rw [h 14 (by omega) (by omega)]; exact p4
section M1
variable (E : EV) (d : Nat) {B : Me}
theorem x_fitS {M : Me} {n D : Nat} {K : Option AV → Me → Prop} (d : Nat) (h8 : sN B ≤ 8) (hP : PU B M n) {x : Int32} (hx : ∀ i, i < 32 → bt x i = true → i < sN B) (m : Nat) (hm : m ≤ 10) (hd : d + 11 < D) (hk : ∀ M', FP M M' → PU B M' n → K (some (vI (bI (aFit B x m)))) M') : codeW m_Packer_packs ∈ TW ∧ CallK E D m_Packer_packs [vP 14 0, vI x, vI (nI m)] M K := by
  have hsm : isSm x := isSm_of fun i h1 h2 => by
    cases hb : bt x i with
    | false => rfl
    | true => have := hx i h2 hb; omega
  obtain ⟨k, hk2, rfl⟩ := hsm
  refine x_fit E d h8 hP k m ?_ hm hd hk
  refine Nat.lt_pow_two_of_testBit _ (fun i hi => ?_)
  rcases Nat.lt_or_ge i 32 with e | e
  · cases hb : k.testBit i with
    | false => rfl
    | true =>
      have := hx i e (by rw [b_nI _ e]; exact hb)
      omega
  · exact Nat.testBit_lt_two_pow (Nat.lt_of_lt_of_le hk2 (Nat.pow_le_pow_right (n := 2) (i := 8) (by omega) (by omega)))
theorem c_leastToBuy {N : Me} (n : Nat) (hC : CI B) (hF : FC B N) (hP : PU B N n) (m : Nat) (hm : m ≤ 10) (sp : Int32) : Mt E (d + 12) m_Market_leastToBuy [vP 21 0, vP 4 0, vI (nI m), vI sp] N (fun r M' => r = some (vI (oI (chp (fun k => subB k (B.1 65 0 24) && decide (nI k &&& sp = nI 0)) (lefts B m) (wOf B) (aiN B + 1)))) ∧ FC B M' ∧ PU B M' n) := by
  obtain ⟨hX, hB, -, -, hN, -⟩ := id hC
  have h8 := hX.1.2.1.2
  have hp8 := pow_le8 h8
  have hai : aiN B < 256 := Nat.lt_of_lt_of_le hB.2 hp8
  generalize hch : chp (fun k => subB k (B.1 65 0 24) && decide (nI k &&& sp = nI 0)) (lefts B m) (wOf B) = ch
  have hl : ∀ k b, ch k = some b → b < k := by
    intro k b h
    rw [← hch] at h
    exact chp_lt k b h
  refine Mt.go ok_Market_leastToBuy [9] 60 rfl ?_
  have key : ∀ k, k ≤ aiN B + 1 → ∀ f l, f = oI (ch k) → (∀ b, ch k = some b → l = wOf B b) → ∀ N, FC B N → PU B N n → ∀ j7, Wp E (d + 12) m_Market_leastToBuy 9 [some (vP 21 0), some (vP 4 0), some (vI (nI m)), some (vI sp), some (vI f), some (vI l), some (vI (nI k)), j7] [] N (fun r M' => r = some (vI (oI (ch (aiN B + 1)))) ∧ FC B M' ∧ PU B M' n) := by
    refine loopUp (aiN B + 1) ?_ ?_
    · rintro f l rfl hl2 N hF hP j7
      have hair : N.1 4 0 3 = nI (aiN B) := by rw [hF.1 4 0 3 rfl, hN.1]; exact hB.1
      refine go ok_Market_leastToBuy [] 60 ?_
      refine qLt hair rfl (by omega) (by omega) (fun _ => ?_) (fun q => absurd q (by omega))
      exact And.intro rfl ⟨hF, hP⟩
    · rintro k hk ih f l rfl hl2 N hF hP j7
      have hairB : N.1 4 0 3 = B.1 65 0 24 := by rw [hF.1 4 0 3 rfl, hN.1]
      have hair : N.1 4 0 3 = nI (aiN B) := by rw [hairB]; exact hB.1
      have hstep : ch (k + 1) = match ch k with
        | none => bif (subB k (B.1 65 0 24) && decide (nI k &&& sp = nI 0)) && lefts B m k then some k else none
        | some b => bif (subB k (B.1 65 0 24) && decide (nI k &&& sp = nI 0)) && (decide (wOf B k < wOf B b) && lefts B m k) then some k else some b := by
        rw [← hch, chp]; rfl
      have nope : (∀ b, ch k = some b → ((subB k (B.1 65 0 24) && decide (nI k &&& sp = nI 0)) && (decide (wOf B k < wOf B b) && lefts B m k)) = false) → (ch k = none → ((subB k (B.1 65 0 24) && decide (nI k &&& sp = nI 0)) && lefts B m k) = false) → ch (k + 1) = ch k := by
        intro n1 n2
        rw [hstep]
        cases hc : ch k with
        | none => dsimp only; rw [n2 hc]; rfl
        | some b => dsimp only; rw [n1 b hc]; rfl
      have skip : ch (k + 1) = ch k → ∀ N, FC B N → PU B N n → ∀ j7, Wp E (d + 12) m_Market_leastToBuy 9 [some (vP 21 0), some (vP 4 0), some (vI (nI m)), some (vI sp), some (vI (oI (ch k))), some (vI l), some (vI (nI (k + 1))), j7] [] N (fun r M' => r = some (vI (oI (ch (aiN B + 1)))) ∧ FC B M' ∧ PU B M' n) := fun e N hF hP j7 => ih _ l (by rw [e]) (fun b hb => hl2 b (by rw [← e]; exact hb)) N hF hP j7
      refine go ok_Market_leastToBuy [9, 66] 60 ?_
      refine qLt hair rfl (by omega) (by omega) (fun q => absurd q (by omega)) (fun _ => ?_)
      refine cLe (by omega) (by omega) (fun q => absurd q (by omega)) (fun _ => ?_)
      refine And.intro (fun w => ?_) (fun w => ?_)
      · have w : ¬ nI k &&& (N.1 4 0 3 ^^^ -(nI 1)) = nI 0 := w
        rw [hairB] at w
        have hs : subB k (B.1 65 0 24) = false := decide_eq_false w
        exact nm_r (nI_add _ _) (skip (nope (fun b _ => by rw [hs]; rfl) (fun _ => by rw [hs]; rfl)) N hF hP _)
      · have w : nI k &&& (N.1 4 0 3 ^^^ -(nI 1)) = nI 0 := w
        rw [hairB] at w
        have hs : subB k (B.1 65 0 24) = true := decide_eq_true w
        refine And.intro (fun w2 => ?_) (fun w2 => ?_)
        · have hs2 : decide (nI k &&& sp = nI 0) = false := decide_eq_false w2
          exact nm_r (nI_add _ _) (skip (nope (fun b _ => by rw [hs2, Bool.and_false]; rfl) (fun _ => by rw [hs2, Bool.and_false]; rfl)) N hF hP _)
        · have hs2 : decide (nI k &&& sp = nI 0) = true := decide_eq_true w2
          obtain ⟨hRN, hNN, hsn⟩ := fc_CI hF hC
          have hsub := (subB_iff (show k < 256 by omega)).mp hs
          have hbits : ∀ t, sN N ≤ t → t < 8 → bt (nI k) t = false := fun t h1 h2 => by
            cases hb : bt (nI k) t with
            | false => rfl
            | true =>
              have := air_lt hB (hsub t h2 hb)
              rw [hsn] at h1; omega
          refine xq (d + 1) ok_Now_worthOf (c_worthOf E d N hRN hNN (nI k) hbits) (by omega) ?_
          have ew : aWr (N.1 65 0) (nI k) (sN N) = wOf B k := by rw [FC_eq hF]; rfl
          rw [ew]
          -- the question whether the others pack
          have f66 : (∀ b, ch k = some b → wOf B k < wOf B b) → Wp E (d + 12) m_Market_leastToBuy 66 [some (vP 21 0), some (vP 4 0), some (vI (nI m)), some (vI sp), some (vI (oI (ch k))), some (vI l), some (vI (nI k)), some (vI (wOf B k))] [] N (fun r M' => r = some (vI (oI (ch (aiN B + 1)))) ∧ FC B M' ∧ PU B M' n) := by
            intro hlt
            refine go ok_Market_leastToBuy [9] 60 ?_
            have hset : ∀ i, i < 32 → bt (N.1 4 0 3 &&& (nI k ^^^ -(nI 1))) i = true → i < sN B := fun i hi hb => by
              rw [b_and, Bool.and_eq_true, hairB] at hb
              exact air_lt hB hb.1
            refine x_fitS E d h8 hP hset m hm (by omega) (fun M3 hF3 hP3 => ?_)
            have el : aFit B (N.1 4 0 3 &&& (nI k ^^^ -(nI 1))) m = lefts B m k := by rw [hairB]; rfl
            rw [el]
            refine brF (fun q => ?_) (fun q => ?_)
            · exact nm_r (nI_add _ _) (skip (nope (fun b _ => by rw [q, Bool.and_false, Bool.and_false]) (fun _ => by rw [q, Bool.and_false])) M3 (hF.tr hF3.fc) hP3 _)
            · have hnew : ch (k + 1) = some k := by
                rw [hstep]
                cases hc : ch k with
                | none => dsimp only; rw [hs, hs2, q]; rfl
                | some b => dsimp only; rw [hs, hs2, q, decide_eq_true (hlt b hc)]; rfl
              exact nm_r (nI_add _ _) (ih _ _ (by rw [hnew]; rfl) (fun b hb => by rw [hnew] at hb; cases hb; rfl) M3 (hF.tr hF3.fc) hP3 _)
          cases hc : ch k with
          | none =>
            refine And.intro (fun _ => ?_) (fun e => absurd rfl e)
            have := f66 (fun b hb => by rw [hc] at hb; cases hb)
            rw [hc] at this
            exact this
          | some b =>
            have hbk := hl k b hc
            refine And.intro (fun e => absurd e (nI_ne_m (show b < 2 ^ 31 by omega) (by omega) (by omega))) (fun _ => ?_)
            rw [hl2 b hc]
            refine And.intro (fun w3 => ?_) (fun w3 => ?_)
            · have := skip (nope (fun b' hb' => by rw [hc] at hb'; cases hb'; rw [decide_eq_false (Int32.not_lt.mpr w3), Bool.false_and, Bool.and_false]) (fun e => by rw [hc] at e; cases e)) N hF hP (some (vI (wOf B k)))
              rw [hc, hl2 b hc] at this
              exact nm_r (nI_add _ _) this
            · have := f66 (fun b' hb' => by rw [hc] at hb'; cases hb'; exact Int32.not_le.mp w3)
              rw [hc, hl2 b hc] at this
              exact this
  have h0 : ch 0 = none := by rw [← hch]; rfl
  exact key 0 (by omega) _ _ (by rw [h0]; rfl) (fun b hb => by rw [h0] at hb; cases hb) N hF hP none
theorem c_frozenPrices {N : Me} (f : Int32) (g : Nat → Int32) (hf : N.1 21 0 4 = f) (hg : ∀ t, t < 8 → bt f t = true → N.1 22 0 t = g t) (k : Nat) (hk : k ≤ 8) (hfk : ∀ t, k ≤ t → t < 8 → bt f t = false) : Mt E (d + 1) m_Market_frozenPrices [vP 21 0] N (RP (vI (aPr f g k)) N) := by
  have key : ∀ t, t ≤ 8 → ∀ x, x = aPr f g (min t k) → Wp E (d + 1) m_Market_frozenPrices 4 [some (vP 21 0), some (vI x), some (vI (nI t))] [] N (RP (vI (aPr f g k)) N) := by
    refine loopUp 8 ?_ ?_
    · rintro x rfl
      refine go ok_Market_frozenPrices [] 60 ?_
      refine cLe (by omega) (by omega) (fun _ => ?_) (fun q => absurd q (by omega))
      refine And.intro ?_ rfl
      rw [Nat.min_eq_right hk]
    · rintro t ht ih x rfl
      refine go ok_Market_frozenPrices [4] 60 ?_
      refine cLe (by omega) (by omega) (fun q => absurd q (by omega)) (fun _ => ?_)
      refine xq d ok_CS_has (c_has E d N _ t (by omega)) (by omega) ?_
      rw [hf]
      refine brF (fun q => ?_) (fun q => ?_)
      · refine nm_r (nI_add _ _) (ih _ ?_)
        rcases Nat.lt_or_ge t k with e | e
        · rw [Nat.min_eq_left (by omega), Nat.min_eq_left (by omega), aPr, q]
          exact (Int32.add_zero _).symm
        · rw [Nat.min_eq_right (by omega), Nat.min_eq_right (by omega)]
      · have e : t < k := by
          rcases Nat.lt_or_ge t k with e | e
          · exact e
          · rw [hfk t e ht] at q; cases q
        refine ix t (show _ < 8 by omega) rfl ?_
        refine nm_r (nI_add _ _) (ih _ ?_)
        rw [Nat.min_eq_left (by omega), Nat.min_eq_left (by omega), aPr, q, hg t ht q]; rfl
  refine Mt.go ok_Market_frozenPrices [4] 60 rfl ?_
  exact key 0 (by omega) _ (by rw [Nat.zero_min]; rfl)
theorem c_quietRounds {N : Me} (v : Nat → Nat) (x : Int32) (k : Nat) (hk : k ≤ 8) (hx : ∀ t, k ≤ t → t < 8 → bt x t = false) (hv : ∀ t, t < k → N.1 6 0 t = nI (v t) ∧ v t ≤ 999) (P st : Nat) (hP : P ≤ 999) (hs1 : 1 ≤ st) (hs2 : st ≤ 999) : Mt E (d + 1) m_Market_quietRounds [vP 4 0, vI x, vI (nI P), vI (nI st)] N (RP (vI (nI (if P < grt v x k then 0 else (P - grt v x k) / st))) N) := by
  have hgl : ∀ j, j ≤ k → grt v x j ≤ 999 := fun j hj => grt_le (by omega) j (fun s hs _ => (hv s (by omega)).2)
  have key : ∀ t, t ≤ 8 → ∀ y, y = grt v x (min t k) → Wp E (d + 1) m_Market_quietRounds 6 [some (vP 4 0), some (vI x), some (vI (nI P)), some (vI (nI st)), some (vI (nI y)), some (vI (nI t))] [] N (RP (vI (nI (if P < grt v x k then 0 else (P - grt v x k) / st))) N) := by
    refine loopUp 8 ?_ ?_
    · rintro y rfl
      rw [Nat.min_eq_right hk]
      have hg := hgl k (Nat.le_refl _)
      refine go ok_Market_quietRounds [] 60 ?_
      refine cLe (by omega) (by omega) (fun _ => ?_) (fun q => absurd q (by omega))
      refine cLt (by omega) (by omega) (fun q => absurd q (by omega)) (fun _ => ?_)
      refine cLe (by omega) (by omega) (fun q => ?_) (fun q => ?_)
      · refine And.intro ?_ (And.intro ?_ rfl)
        · exact fun e => absurd ((nI_eq (a := st) (b := 0) (by omega) (by omega)).mp e) (by omega)
        · rw [if_neg (by omega), pk_sub q, pk_div (by omega) (by omega) (by omega)]
      · refine And.intro ?_ rfl
        rw [if_pos q]
    · rintro t ht ih y rfl
      refine go ok_Market_quietRounds [6] 60 ?_
      refine cLe (by omega) (by omega) (fun q => absurd q (by omega)) (fun _ => ?_)
      refine xq d ok_CS_has (c_has E d N x t (by omega)) (by omega) ?_
      refine brF (fun q => ?_) (fun q => ?_)
      · refine nm_r (nI_add _ _) (ih _ ?_)
        rcases Nat.lt_or_ge t k with e | e
        · rw [Nat.min_eq_left (by omega), Nat.min_eq_left (by omega), grt, q]; rfl
        · rw [Nat.min_eq_right (by omega), Nat.min_eq_right (by omega)]
      · have e : t < k := by
          rcases Nat.lt_or_ge t k with e | e
          · exact e
          · rw [hx t e ht] at q; cases q
        obtain ⟨v1, v2⟩ := hv t e
        have hg := hgl t (by omega)
        refine ix t (show _ < 8 by omega) rfl ?_
        refine nm_r (nI_add _ _) ?_
        have := ih (max (grt v x t) (v t)) (by rw [Nat.min_eq_left (by omega), grt, q]; rfl)
        have em : (if nI (grt v x (min t k)) < N.1 6 0 t then N.1 6 0 t else nI (grt v x (min t k))) = nI (max (grt v x t) (v t)) := by
          rw [v1, Nat.min_eq_left (by omega)]
          by_cases c : grt v x t < v t
          · rw [if_pos ((nI_ltI (by omega) (by omega)).mpr c), Nat.max_eq_right (by omega)]
          · rw [if_neg (fun z => c ((nI_ltI (by omega) (by omega)).mp z)), Nat.max_eq_left (by omega)]
        rw [← em] at this
        exact this
  refine Mt.go ok_Market_quietRounds [6] 60 rfl ?_
  exact key 0 (by omega) 1 (by rw [Nat.zero_min]; rfl)
end M1
