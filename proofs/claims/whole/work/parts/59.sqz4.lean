/-! the class: the squeezer finds the row -/
theorem Fst_cg {S : Nat → Bool} {F G : Nat → Nat → Bool} {D : DT} {n : Nat} {ρ : Nat → Nat} (h : ∀ t, t < n → S t = true → ∀ i, F t i = G t i) (hf : Fst S F D n ρ) : Fst S G D n ρ := ⟨Vr_cg (fun _ _ => rfl) h hf.1, fun r hr => hf.2 r (Vr_cg (fun _ _ => rfl) (fun t ht hS i => (h t ht hS i).symm) hr)⟩
def FndP (B N : Me) (n : Nat) (q m : Nat) (o : Nat → Nat) (r : Option AV) (M' : Me) : Prop := FC B M' ∧ PU B M' n ∧ M'.1 0 = N.1 0 ∧ M'.1 23 0 6 = N.1 23 0 6 ∧ M'.1 23 0 7 = N.1 23 0 7 ∧ ((r = some (vI (nI 0)) ∧ sqO (aS B) (aLst B) (aDist B) (sN B) o m = none) ∨ (r = some (vI (nI 1)) ∧ ∃ ρ, sqO (aS B) (aLst B) (aDist B) (sN B) o m = some ρ ∧ (∀ t, t < 8 → aS B t = true → M'.1 24 0 t = nI (ρ t) ∧ 1 ≤ ρ t ∧ ρ t ≤ 10) ∧ (∀ t, t < 8 → aS B t = false → M'.1 24 0 t = N.1 q 0 t) ∧ M'.1 23 0 4 = S32 (mvb (aS B) o ρ)))
section S2
variable (E : EV) (d : Nat) {B : Me}
theorem c_findRow {N : Me} (n : Nat) (hC : CI B) (hF : FC B N) (hP : PU B N n) (q : Nat) (hq : q = 5 ∨ q = 24) (m : Nat) (hm : m ≤ 10) (o : Nat → Nat) (ho : ∀ t, t < 8 → aS B t = true → N.1 q 0 t = nI (o t) ∧ 1 ≤ o t ∧ o t ≤ 10) : Mt E (d + 13) m_Squeezer_findRow [vP 23 0, vI (B.1 65 0 24), vP q 0, vI (nI m)] N (FndP B N n q m o) := by
  obtain ⟨hX, hB, -, -, hN, -⟩ := id hC
  have h8 := hX.1.2.1.2
  have hp8 := pow_le8 h8
  have hai : aiN B < 256 := Nat.lt_of_lt_of_le hB.2 hp8
  have hair : B.1 65 0 24 = nI (aiN B) := hB.1
  have haS : aS B = bt (nI (aiN B)) := by unfold aS; rw [hair]
  have haN : ∀ t, bt (nI (aiN B)) t = true → t < sN B := fun t h => air_lt hB (by unfold aOn; rw [hair]; exact h)
  have ho' : ∀ t, t < 8 → bt (nI (aiN B)) t = true → N.1 q 0 t = nI (o t) ∧ 1 ≤ o t ∧ o t ≤ 10 := fun t ht h => ho t ht (by rw [haS]; exact h)
  rw [hair]
  generalize hA : aiN B = air at *
  have hVB : ∀ r, Vr (bt (nI air)) (Lm (aLst B) m) (DD (clC B) (brC B)) 8 r ↔ Vr (bt (nI air)) (Lm (aLst B) m) (aDist B) (sN B) r := fun r => Vr_B h8 haN
  generalize hQ : FndP B N n q m o = Q
  -- from the copied channels on
  have rest : ∀ (N1 : Me) (j4 : Option AV), FC B N1 → PU B N1 n → N1.1 0 = N.1 0 → N1.1 23 = N.1 23 → (∀ t, t < 8 → N1.1 25 0 t = N.1 q 0 t ∧ N1.1 24 0 t = N.1 q 0 t) → (∃ r, Vr (bt (nI air)) (Lm (aLst B) m) (DD (clC B) (brC B)) 8 r) → Wp E (d + 13) m_Squeezer_findRow 70 [some (vP 23 0), some (vI (nI air)), some (vP q 0), some (vI (nI m)), j4, none, none, none] [] N1 Q := by
    intro N1 j4 hF1 hP1 h01 h231 hcp hex
    have hfr : ∀ t, t < 8 → bt (nI air) t = true → N1.1 25 0 t = nI (o t) ∧ 1 ≤ o t ∧ o t ≤ 10 := fun t ht hb => by
      rw [(hcp t ht).1]; exact ho' t ht hb
    refine go ok_Squeezer_findRow [88] 60 ?_
    refine xc (d + 2) ok_Squeezer_thoseThatMust (c_thoseThatMust E d n hP1 air m haN h8 hm o hfr) (by omega) ?_
    rintro r M2 ⟨rfl, hM2⟩
    have hA2 : A19 N1 M2 := by rw [hM2]; exact bgM_a N1 (nI air) m
    have hmsm : isSm (mkS (fun t => bt (nI air) t && !Lm (aLst B) m t (o t - 1)) 8) := isSm_of fun i i1 i2 => by
      rw [mkS_at _ _ _ (by omega) i2, decide_eq_false (by omega)]; rfl
    have hmbt : ∀ t, t < 8 → bt (mkS (fun t => bt (nI air) t && !Lm (aLst B) m t (o t - 1)) 8) t = (bt (nI air) t && !Lm (aLst B) m t (o t - 1)) := fun t ht => by
      rw [mkS_at _ _ _ (by omega) (by omega), decide_eq_true ht]; rfl
    refine xq d ok_Integer_bitCount (c_bitCountS E d M2 hmsm) (by omega) ?_
    rw [bits8 hmsm]
    obtain ⟨must, hmust, em⟩ := hmsm
    rw [em] at hmbt ⊢
    have hm1 : ∀ r, Vr (bt (nI air)) (Lm (aLst B) m) (DD (clC B) (brC B)) 8 r → ∀ t, t < 8 → bt (nI must) t = true → mvb (bt (nI air)) o r t = true := by
      intro r hr t ht hb
      rw [hmbt t ht, Bool.and_eq_true] at hb
      unfold mvb
      rw [hb.1, Bool.true_and]
      obtain ⟨⟨a1, a2⟩, -⟩ := hr t ht hb.1
      have hnl : Lm (aLst B) m t (o t - 1) = false := by simpa using hb.2
      have : ¬ r t = o t := fun e => by rw [e, hnl] at a2; cases a2
      rw [decide_eq_false this]; rfl
    have hSa : ∀ t, bt (nI air) t = true → t < 8 ∧ bt (nI air) t = true := fun t h => ⟨by have := haN t h; omega, h⟩
    have hSn : ∀ t, bt (nI air) t = true → t < sN B ∧ bt (nI air) t = true := fun t h => ⟨haN t h, h⟩
    have ho1 : ∀ t, t < 8 → bt (nI air) t = true → 1 ≤ o t := fun t ht h => (ho' t ht h).2.1
    -- what the memory tells
    let RM : Me → Bool → (Nat → Nat) → Nat → Prop := fun N' b ρ mv => FC B N' ∧ PU B N' n ∧ N'.1 0 = N.1 0 ∧ (N'.1 23 0 6 = N.1 23 0 6 ∧ N'.1 23 0 7 = N.1 23 0 7) ∧ (∀ t, t < 8 → bt (nI air) t = true → N'.1 25 0 t = nI (o t) ∧ 1 ≤ o t ∧ o t ≤ 10) ∧ (∀ t, t < 8 → bt (nI air) t = false → N'.1 24 0 t = N.1 q 0 t) ∧ (b = true → (∀ t, t < 8 → bt (nI air) t = true → N'.1 24 0 t = nI (ρ t) ∧ 1 ≤ ρ t ∧ ρ t ≤ 10) ∧ N'.1 23 0 4 = nI mv)
    -- the end
    have fin : ∀ (N' : Me) (ρ : Nat → Nat) (mv c : Nat), RM N' true ρ mv → SqI (bt (nI air)) (Lm (aLst B) m) (DD (clC B) (brC B)) o air must c (air + 1) true ρ mv → ∀ c', c' ≤ 100 → ∀ j7, Wp E (d + 13) m_Squeezer_findRow 88 [some (vP 23 0), some (vI (nI air)), some (vP q 0), some (vI (nI m)), some (vI (nI must)), some (vI (nI 1)), some (vI (nI c')), j7] [] N' Q := by
      intro N' ρ mv c hR hI c' hc' j7
      obtain ⟨r1, r2, r3, r4, r5, r6, r7⟩ := hR
      obtain ⟨r71, r72⟩ := r7 rfl
      obtain ⟨e1, e2⟩ := SqI_end h8 hSn ho1 hai hmust hm1 hVB (Nat.lt_succ_self air) hI
      have hQr : Q (some (vI (nI 1))) N' := by
        rw [← hQ]
        refine ⟨r1, r2, r3, r4.1, r4.2, Or.inr ⟨rfl, res (bt (nI air)) (sN B) ρ, by rw [haS]; exact e1, fun t ht hS => ?_, fun t ht hS => ?_, ?_⟩⟩
        · rw [haS] at hS
          have : res (bt (nI air)) (sN B) ρ t = ρ t := by unfold res; rw [hS, decide_eq_true (haN t hS)]; rfl
          rw [this]; exact r71 t ht hS
        · rw [haS] at hS; exact r6 t ht hS
        · rw [r72, haS]
          refine S32_eq fun i hi => ?_
          rcases Nat.lt_or_ge i 8 with w | w
          · rw [e2 i w]
            unfold mvb
            cases h : bt (nI air) i with
            | false => rfl
            | true =>
              have : res (bt (nI air)) (sN B) ρ i = ρ i := by unfold res; rw [h, decide_eq_true (haN i h)]; rfl
              rw [this]
          · have hmv := (hI.2.2 rfl).1.2.1
            rw [isSm_bt ⟨mv, hmv, rfl⟩ w]
            unfold mvb
            cases h : bt (nI air) i with
            | false => rfl
            | true => have := haN i h; omega
      refine go ok_Squeezer_findRow [] 60 ?_
      refine cLt (by omega) (by omega) (fun _ => ?_) (fun _ => ?_)
      · exact And.intro (Or.inr rfl) hQr
      · refine And.intro (fun _ => ?_) (fun e => absurd e (by decide))
        exact And.intro (Or.inr rfl) hQr
    have outer : ∀ c, c ≤ 9 → ∀ (N' : Me) (ρ : Nat → Nat) (mv : Nat), RM N' false ρ mv → SqI (bt (nI air)) (Lm (aLst B) m) (DD (clC B) (brC B)) o air must c must false ρ mv → ∀ j7, Wp E (d + 13) m_Squeezer_findRow 88 [some (vP 23 0), some (vI (nI air)), some (vP q 0), some (vI (nI m)), some (vI (nI must)), some (vI (nI 0)), some (vI (nI c)), j7] [] N' Q := by
      refine loopUp 9 ?_ ?_
      · intro N' ρ mv hR hI j7
        obtain ⟨r, hr⟩ := hex
        have := hI.1 r hr
        have := cs8_le (mvb (bt (nI air)) o r)
        omega
      · intro c hc ihc N' ρ mv hR hI j7
        -- the sets one by one
        have inner : ∀ j k, k = air + 1 - j → ∀ (N' : Me) (b : Bool) (ρ : Nat → Nat) (mv : Nat), must ≤ k → RM N' b ρ mv → SqI (bt (nI air)) (Lm (aLst B) m) (DD (clC B) (brC B)) o air must c k b ρ mv → j ≤ air + 1 → Wp E (d + 13) m_Squeezer_findRow 104 [some (vP 23 0), some (vI (nI air)), some (vP q 0), some (vI (nI m)), some (vI (nI must)), some (vI (bI b)), some (vI (nI c)), some (vI (nI k))] [] N' Q := by
          intro j
          induction j with
          | zero =>
            rintro k rfl N' b ρ mv hk hR hI _
            refine go ok_Squeezer_findRow [88] 60 ?_
            refine cLt (by omega) (by omega) (fun _ => ?_) (fun q => absurd q (by omega))
            cases b with
            | false => exact nm_r (nI_add _ _) (ihc N' ρ mv hR (SqI_next hSa ho1 hai hmust hm1 (by omega) hI) _)
            | true => exact nm_r (nI_add _ _) (fin N' ρ mv c hR hI (c + 1) (by omega) _)
          | succ j ih =>
            rintro k hkj N' b ρ mv hk hR hI hj
            have hka : k ≤ air := by omega
            have hih := fun N' b ρ mv h1 h2 => ih (k + 1) (by omega) N' b ρ mv (by omega) h1 h2 (by omega)
            obtain ⟨r1, r2, r3, r4, r5, r6, r7⟩ := id hR
            refine go ok_Squeezer_findRow [104, 155] 60 ?_
            refine cLt (by omega) (by omega) (fun q => absurd q (by omega)) (fun _ => ?_)
            refine xq (d + 1) ok_Squeezer_isChoice (c_isChoice E d N' air must k c (by omega) (by omega)) (by omega) ?_
            refine brF (fun hch => ?_) (fun hch => ?_)
            · refine nm_r (nI_add _ _) (hih N' b ρ mv hR (SqI_skip hI (fun u1 u2 u3 _ => ?_)))
              rw [u1, u2, decide_eq_true u3] at hch; cases hch
            · rw [Bool.and_eq_true, Bool.and_eq_true, decide_eq_true_eq] at hch
              obtain ⟨u1, u2, u3⟩ := hch
              refine xc (d + 2) ok_Squeezer_holdAllBut (c_holdAllBut E d n r2 air m k haN h8 hm o r5) (by omega) ?_
              rintro r N3 ⟨rfl, hA3, hl3⟩
              have hP3 := PU_a hA3 r2
              have hw3 : Lw N3 0 (nI air) := by
                intro t ht hS i hi
                have := hl3 t ht hS i
                unfold lfB at this
                rw [this]
                unfold Hd Lm
                rw [decide_eq_false (show ¬ i < m by omega), Bool.and_false]; rfl
              have RMa : ∀ N4, A19 N' N4 → RM N4 b ρ mv := fun N4 hA4 => ⟨r1.tr hA4.fc, PU_a hA4 r2, by rw [← r3]; funext r k; exact hA4.1 0 r k (by omega), ⟨by rw [hA4.1 23 0 6 (by omega)]; exact r4.1, by rw [hA4.1 23 0 7 (by omega)]; exact r4.2⟩, fun t ht hb => by rw [hA4.1 25 0 t (by omega)]; exact r5 t ht hb, fun t ht hb => by rw [hA4.1 24 0 t (by omega)]; exact r6 t ht hb, fun e => ⟨fun t ht hb => by rw [hA4.1 24 0 t (by omega)]; exact (r7 e).1 t ht hb, by rw [hA4.1 23 0 4 (by omega)]; exact (r7 e).2⟩⟩
              refine xc (d + 11) ok_Packer_settle (c_settle E d (DD_sy _ h8) (nI air) N3 hP3.2.1 ⟨air, hai, rfl⟩ hw3) (by omega) ?_
              rintro r N4 (⟨rfl, hno, hA4⟩ | ⟨rfl, hA4, ρ', hρ', hv'⟩)
              · refine And.intro (fun _ => ?_) (fun e => absurd rfl e)
                have hno' : ¬ ∃ r, Vr (bt (nI air)) (Hd (Lm (aLst B) m) o (bt (nI k))) (DD (clC B) (brC B)) 8 r := fun ⟨r, hr⟩ => hno ⟨r, Vr_cg (fun _ _ => rfl) (fun t ht hS i => (hl3 t ht hS i).symm) hr⟩
                exact nm_r (nI_add _ _) (hih N4 b ρ mv (RMa N4 (hA3.tr hA4)) (SqI_skip hI (fun _ _ _ _ => ⟨fun _ => hno', fun _ r hr => absurd ⟨r, hr⟩ hno'⟩)))
              · refine And.intro (fun e => absurd e (by decide)) (fun _ => ?_)
                have hρ := Fst_cg hl3 hρ'
                have hR4 := RMa N4 (hA3.tr hA4)
                have hs4 : ∀ t, t < 8 → bt (nI air) t = true → N4.1 19 0 t = b1 (ρ' t - 1) ∧ 1 ≤ ρ' t ∧ ρ' t ≤ 10 := by
                  intro t ht hb
                  obtain ⟨⟨a1, a2⟩, -⟩ := hρ.1 t ht hb
                  unfold Hd Lm at a2
                  simp only [Bool.and_eq_true, decide_eq_true_eq] at a2
                  exact ⟨hv' t ht hb, a1, by omega⟩
                -- the row is taken
                have take : (b = true → ∃ s, s < 8 ∧ bt (nI air) s = true ∧ (∀ t, t < s → bt (nI air) t = true → ρ t = ρ' t) ∧ ρ' s < ρ s) → Wp E (d + 13) m_Squeezer_findRow 155 [some (vP 23 0), some (vI (nI air)), some (vP q 0), some (vI (nI m)), some (vI (nI must)), some (vI (bI b)), some (vI (nI c)), some (vI (nI k))] [] N4 Q := by
                  intro hb
                  refine go ok_Squeezer_findRow [104] 60 ?_
                  refine xc (d + 2) ok_Squeezer_takeRow (c_takeRow E d N4 air ρ' hs4) (by omega) ?_
                  rintro r N5 ⟨rfl, rfl⟩
                  refine nm_r (nI_add _ _) (hih _ true ρ' k ?_ (SqI_take hI (by omega) u1 u3 hρ hb))
                  obtain ⟨s1, s2, s3, s4, s5, s6, -⟩ := hR4
                  have hat : ∀ t, t < 8 → (setR N4 24 0 0 8 (fun t => bif bt (nI air) t then nI (ρ' t) else N4.1 24 0 t)).1 24 0 t = (bif bt (nI air) t then nI (ρ' t) else N4.1 24 0 t) := fun t ht => by
                    have h := setR_at (M := N4) (i := 24) (r := 0) (lo := 0) (n := 8) (f := fun t => bif bt (nI air) t then nI (ρ' t) else N4.1 24 0 t) (k := t) ht
                    rw [Nat.zero_add] at h
                    exact h
                  refine ⟨FC_sI (s1.tr ⟨fun i r k e => setR_out (fun z => by rw [z.1] at e; cases e), rfl⟩) rfl, PU_o s2 (fun i i1 i2 => by funext r k; rw [sI_at, if_neg (by omega), setR_out (by omega)]), ?_, ⟨?_, ?_⟩, fun t ht hb => ?_, fun t ht hb => ?_, fun _ => ⟨fun t ht hb => ?_, ?_⟩⟩
                  · rw [← s3]; funext r k; rw [sI_at, if_neg (by omega), setR_out (by omega)]
                  · rw [sI_at, if_neg (by omega), setR_out (by omega)]; exact s4.1
                  · rw [sI_at, if_neg (by omega), setR_out (by omega)]; exact s4.2
                  · rw [sI_at, if_neg (by omega), setR_out (by omega)]; exact s5 t ht hb
                  · rw [sI_at, if_neg (by omega), hat t ht, hb]; exact s6 t ht hb
                  · rw [sI_at, if_neg (by omega), hat t ht, hb]; exact ⟨rfl, (hs4 t ht hb).2⟩
                  · rw [sI_at, if_pos ⟨rfl, rfl, rfl⟩]
                cases b with
                | false =>
                  refine And.intro (fun _ => ?_) (fun e => absurd rfl e)
                  exact take (fun e => by cases e)
                | true =>
                  refine And.intro (fun e => absurd e (by decide)) (fun _ => ?_)
                  obtain ⟨w1, w2⟩ := hR4.2.2.2.2.2.2 rfl
                  refine xc (d + 2) ok_Squeezer_isAheadOfRow (c_isAheadOfRow E d N4 air ρ ρ' hs4 (fun t ht hb => ⟨(w1 t ht hb).1, (w1 t ht hb).2.2⟩)) (by omega) ?_
                  rintro r N5 ⟨bb, rfl, rfl, hbt, hbf⟩
                  refine brF (fun e => ?_) (fun e => ?_)
                  · refine nm_r (nI_add _ _) (hih N5 true ρ mv hR4 (SqI_skip hI (fun _ _ _ _ => ⟨fun e => (by cases e), fun _ r hr => ?_⟩)))
                    rcases hbf e with z | ⟨s, s1, s2, s3, s4⟩
                    · rcases hρ.2 r hr with y | ⟨u, v1, v2, v3, v4⟩
                      · exact Or.inl (fun t ht hS => by rw [y t ht hS, z t ht hS])
                      · exact Or.inr ⟨u, v1, v2, fun t ht hS => by rw [v3 t ht hS, z t (by omega) hS], by rw [← z u v1 v2]; exact v4⟩
                    · right
                      rcases hρ.2 r hr with y | ⟨u, v1, v2, v3, v4⟩
                      · exact ⟨s, s1, s2, fun t ht hS => by rw [y t (by omega) hS, s3 t ht hS], by rw [y s s1 s2]; exact s4⟩
                      · rcases Nat.lt_trichotomy s u with x | x | x
                        · exact ⟨s, s1, s2, fun t ht hS => by rw [v3 t (by omega) hS, s3 t ht hS], by rw [v3 s x s2]; exact s4⟩
                        · subst x; exact ⟨s, s1, s2, fun t ht hS => by rw [v3 t ht hS, s3 t ht hS], by omega⟩
                        · exact ⟨u, v1, v2, fun t ht hS => by rw [v3 t ht hS, s3 t (by omega) hS], by rw [← s3 u x v2]; exact v4⟩
                  · exact take (fun _ => hbt e)
        have hmle : must ≤ air := by
          refine sub_le hmust ((subB_iff hmust).mpr (fun t ht hb => ?_))
          have hb : bt (nI must) t = true := hb
          rw [hmbt t ht, Bool.and_eq_true] at hb
          exact hb.1
        refine go ok_Squeezer_findRow [104] 60 ?_
        refine cLt (by omega) (by omega) (fun q => absurd q (by omega)) (fun _ => ?_)
        refine And.intro (fun e => absurd rfl e) (fun _ => ?_)
        exact inner (air + 1 - must) must (by omega) N' false ρ mv (Nat.le_refl _) hR hI (by omega)
    refine outer (cs8 (bt (nI must))) (by have := cs8_le (bt (nI must)); omega) M2 (fun _ => 0) 0 ⟨hF1.tr hA2.fc, PU_a hA2 hP1, by rw [← h01]; funext r k; exact hA2.1 0 r k (by omega), ⟨by rw [hA2.1 23 0 6 (by omega), h231], by rw [hA2.1 23 0 7 (by omega), h231]⟩, fun t ht hb => by rw [hA2.1 25 0 t (by omega)]; exact hfr t ht hb, fun t ht hb => by rw [hA2.1 24 0 t (by omega)]; exact (hcp t ht).2, fun e => (by cases e)⟩ (SqI_0 hmust hm1 _ _) _
  have pro : ∀ (M1 : Me), FP N M1 → PU B M1 n → aFit B (nI air) m = true → ∀ t, t ≤ 8 → ∀ N2, (∀ i r k, i ≠ 24 → i ≠ 25 → N2.1 i r k = M1.1 i r k) → N2.2 = M1.2 → (∀ u, u < t → N2.1 25 0 u = N.1 q 0 u ∧ N2.1 24 0 u = N.1 q 0 u) → (∀ u, t ≤ u → u < 8 → N2.1 24 0 u = M1.1 24 0 u) → Wp E (d + 13) m_Squeezer_findRow 35 [some (vP 23 0), some (vI (nI air)), some (vP q 0), some (vI (nI m)), some (vI (nI t)), none, none, none] [] N2 Q := by
    intro M1 hF1 hP1 hfit
    refine loopUp 8 ?_ ?_
    · intro N2 h1 h2 h3 h4
      refine go ok_Squeezer_findRow [70] 60 ?_
      refine cLe (by omega) (by omega) (fun _ => ?_) (fun q => absurd q (by omega))
      obtain ⟨r, hr⟩ := aFit_ex.mp hfit
      refine rest N2 _ ((hF.tr hF1.fc).tr ⟨fun i r k e => h1 i r k (fun z => by rw [z] at e; cases e) (fun z => by rw [z] at e; cases e), h2⟩) (PU_o hP1 (fun i i1 i2 => by funext r k; exact h1 i r k (by omega) (by omega))) ?_ ?_ (fun t ht => h3 t ht) ⟨r, (hVB r).mpr hr⟩
      · funext r k
        rw [h1 0 r k (by omega) (by omega)]; exact hF1.1 0 r k (by omega) (by omega)
      · funext r k
        rw [h1 23 r k (by omega) (by omega)]; exact hF1.1 23 r k (by omega) (by omega)
    · intro t ht ih N2 h1 h2 h3 h4
      have hv : N2.1 q 0 t = N.1 q 0 t := by
        rcases hq with e | e
        · rw [e, h1 5 0 t (by omega) (by omega)]; exact hF1.1 5 0 t (by omega) (by omega)
        · rw [e, h4 t (Nat.le_refl _) ht]; exact hF1.1 24 0 t (by omega) (by omega)
      have hnext := ih (sI (sI N2 25 0 t (N2.1 q 0 t)) 24 0 t (N2.1 q 0 t)) (fun i r k i1 i2 => by rw [sI_at, if_neg (fun z => i1 z.1), sI_at, if_neg (fun z => i2 z.1)]; exact h1 i r k i1 i2) h2 (fun u hu => by
        rw [sI_at, if_neg (by omega), sI_at, sI_at]
        by_cases e : u = t
        · rw [if_pos ⟨rfl, rfl, e⟩, if_pos ⟨rfl, rfl, e⟩, e, hv]; exact ⟨rfl, rfl⟩
        · rw [if_neg (fun z => e z.2.2), if_neg (fun z => e z.2.2), sI_at, if_neg (by omega)]
          exact h3 u (by omega)) (fun u hu hu8 => by
        rw [sI_at, if_neg (by omega), sI_at, if_neg (by omega)]
        exact h4 u (by omega) hu8)
      obtain rfl | rfl := hq
      · refine go ok_Squeezer_findRow [35] 60 ?_
        refine cLe (by omega) (by omega) (fun q => absurd q (by omega)) (fun _ => ?_)
        refine ix t (show _ < 8 by omega) rfl ?_
        refine ix t (show _ < 8 by omega) rfl ?_
        refine ix t (show _ < 8 by omega) rfl ?_
        refine ix t (show _ < 8 by omega) rfl ?_
        exact nm_r (nI_add _ _) hnext
      · refine go ok_Squeezer_findRow [35] 60 ?_
        refine cLe (by omega) (by omega) (fun q => absurd q (by omega)) (fun _ => ?_)
        refine ix t (show _ < 8 by omega) rfl ?_
        refine ix t (show _ < 8 by omega) rfl ?_
        refine ix t (show _ < 8 by omega) rfl ?_
        refine ix t (show _ < 8 by omega) rfl ?_
        exact nm_r (nI_add _ _) hnext
  have bad : ∀ (M1 : Me), FP N M1 → PU B M1 n → aFit B (nI air) m = false → Q (some (vI (nI 0))) M1 := by
    intro M1 hF1 hP1 hfit
    rw [← hQ]
    refine ⟨hF.tr hF1.fc, hP1, by funext r k; exact hF1.1 0 r k (by omega) (by omega), hF1.1 23 0 6 (by omega) (by omega), hF1.1 23 0 7 (by omega) (by omega), Or.inl ⟨rfl, ?_⟩⟩
    unfold sqO
    have : exr (aS B) (aLst B) (aDist B) m (sN B) (sN B) 0 (fun _ => 0) = [] := by
      unfold aFit at hfit
      rw [haS]
      have hfit : (exr (bt (nI air)) (aLst B) (aDist B) m (sN B) (sN B) 0 (fun _ => 0)).isEmpty = true := by simpa [aX] using hfit
      exact List.isEmpty_iff.mp hfit
    rw [this]; rfl
  obtain rfl | rfl := hq
  · refine Mt.go ok_Squeezer_findRow [35] 60 rfl ?_
    refine cLt (by omega) (by omega) (fun q => absurd q (by omega)) (fun _ => ?_)
    refine cLe (by omega) (by omega) (fun q => absurd q (by omega)) (fun _ => ?_)
    refine And.intro (fun q => absurd q (by decide)) (fun _ => ?_)
    refine x_fitS E d h8 hP (x := nI air) (fun i _ hb => haN i hb) m hm (by omega) (fun M1 hF1 hP1 => ?_)
    refine brN (fun hf => ?_) (fun hf => ?_)
    · exact pro M1 hF1 hP1 hf 0 (by omega) M1 (fun _ _ _ _ _ => rfl) rfl (fun u hu => absurd hu (Nat.not_lt_zero _)) (fun u _ _ => rfl)
    · exact And.intro (Or.inl rfl) (bad M1 hF1 hP1 hf)
  · refine Mt.go ok_Squeezer_findRow [35] 60 rfl ?_
    refine cLt (by omega) (by omega) (fun q => absurd q (by omega)) (fun _ => ?_)
    refine cLe (by omega) (by omega) (fun q => absurd q (by omega)) (fun _ => ?_)
    refine And.intro (fun q => absurd q (by decide)) (fun _ => ?_)
    refine x_fitS E d h8 hP (x := nI air) (fun i _ hb => haN i hb) m hm (by omega) (fun M1 hF1 hP1 => ?_)
    refine brN (fun hf => ?_) (fun hf => ?_)
    · exact pro M1 hF1 hP1 hf 0 (by omega) M1 (fun _ _ _ _ _ => rfl) rfl (fun u hu => absurd hu (Nat.not_lt_zero _)) (fun u _ _ => rfl)
    · exact And.intro (Or.inl rfl) (bad M1 hF1 hP1 hf)
end S2
