/-! the class: the packer settles; what is known -/
def Fst (S : Nat → Bool) (F : Nat → Nat → Bool) (D : DT) (n : Nat) (ρ : Nat → Nat) : Prop := Vr S F D n ρ ∧ ∀ r, Vr S F D n r → (∀ t, t < n → S t = true → r t = ρ t) ∨ ∃ s, s < n ∧ S s = true ∧ (∀ t, t < s → S t = true → r t = ρ t) ∧ ρ s < r s
def A19 (M M' : Me) : Prop := (∀ i r k, i ≠ 19 → M'.1 i r k = M.1 i r k) ∧ M'.2 = M.2
theorem A19.rf (M : Me) : A19 M M := ⟨fun _ _ _ _ => rfl, rfl⟩
theorem A19.tr {M M' M'' : Me} (h : A19 M M') (h' : A19 M' M'') : A19 M M'' := ⟨fun i r k e => (h'.1 i r k e).trans (h.1 i r k e), h'.2.trans h.2⟩
theorem F19.a {δ : Nat} {M M' : Me} (h : F19 δ M M') : A19 M M' := ⟨fun i r k e => h.1 i r k (fun q => e q.1), h.2⟩
theorem A19.pk {M M' : Me} (h : A19 M M') {cl br : Nat → Int32} (hp : PkD M cl br) : PkD M' cl br := fun s hs => ⟨(h.1 16 0 s (by omega)).trans (hp s hs).1, (h.1 17 0 s (by omega)).trans (hp s hs).2⟩
theorem A19_sI {M N : Me} {r k : Nat} {x : Int32} (h : A19 M N) : A19 M (sI N 19 r k x) := ⟨fun a b c e => (up3_ne (fun z => e z.1)).trans (h.1 a b c e), h.2⟩
theorem b1_inj {i j : Nat} (hi : i < 32) (hj : j < 32) (h : b1 i = b1 j) : i = j := by
  have e := congrArg (fun x => bt x i) h
  simp only [b1_at hi hi, b1_at hj hi] at e
  simpa using e
/-- who is settled has that one channel -/
theorem sgl {S : Nat → Bool} {D : DT} {M N : Me} {s : Nat} {ρ : Nat → Nat} (h1 : ∀ t, t < s → t < 8 → S t = true → N.1 19 0 t = b1 (ρ t - 1) ∧ 1 ≤ ρ t ∧ ρ t ≤ 10 ∧ lfB M 0 t (ρ t - 1) = true) (h2 : ∀ t, s ≤ t → t < 8 → N.1 19 0 t = M.1 19 0 t) (r : Nat → Nat) : Vr S (lfB N 0) D 8 r ↔ Vr S (lfB M 0) D 8 r ∧ ∀ t, t < s → t < 8 → S t = true → r t = ρ t := by
  constructor
  · intro h
    have hp : ∀ t, t < s → t < 8 → S t = true → r t = ρ t := by
      intro t ht h8 hS
      obtain ⟨a1, a2, a3, a4⟩ := h1 t ht h8 hS
      obtain ⟨⟨b1', b2⟩, -⟩ := h t h8 hS
      unfold lfB at b2
      rw [a1] at b2
      rcases Nat.lt_or_ge (r t - 1) 32 with e | e
      · rw [b1_at (by omega) e] at b2
        have := of_decide_eq_true b2
        omega
      · rw [b_big e] at b2; cases b2
    refine ⟨fun t ht hS => ?_, hp⟩
    obtain ⟨⟨b1', b2⟩, b3⟩ := h t ht hS
    refine ⟨⟨b1', ?_⟩, b3⟩
    rcases Nat.lt_or_ge t s with e | e
    · rw [hp t e ht hS]
      exact (h1 t e ht hS).2.2.2
    · unfold lfB at b2 ⊢
      rw [← h2 t e ht]; exact b2
  · rintro ⟨h, hp⟩ t ht hS
    obtain ⟨⟨b1', b2⟩, b3⟩ := h t ht hS
    refine ⟨⟨b1', ?_⟩, b3⟩
    rcases Nat.lt_or_ge t s with e | e
    · obtain ⟨a1, a2, a3, a4⟩ := h1 t e ht hS
      unfold lfB
      rw [a1, hp t e ht hS, b1_at (by omega) (by omega)]
      exact decide_eq_true rfl
    · unfold lfB at b2 ⊢
      rw [h2 t e ht]; exact b2
section K3
variable (E : EV) (d : Nat) {cl br : Nat → Int32}
theorem c_settle (hD : Dsy (DD cl br)) (set : Int32) (M : Me) (hp : PkD M cl br) (hsm : isSm set) (hw : Lw M 0 set) : Mt E (d + 11) m_Packer_settle [vP 14 0, vI set] M (fun r M' => (r = some (vI (nI 0)) ∧ (¬ ∃ r, Vr (bt set) (lfB M 0) (DD cl br) 8 r) ∧ A19 M M') ∨ (r = some (vI (nI 1)) ∧ A19 M M' ∧ ∃ ρ, Fst (bt set) (lfB M 0) (DD cl br) 8 ρ ∧ ∀ t, t < 8 → bt set t = true → M'.1 19 0 t = b1 (ρ t - 1))) := by
  have hl8 : ∀ S : Nat → Bool, (stL S 8 0).length ≤ 8 := by
    intro S
    have : ∀ k s, (stL S k s).length ≤ k := by
      intro k
      induction k with
      | zero => intro s; exact Nat.le_refl _
      | succ k ih =>
        intro s
        rw [stL]
        have := ih (s + 1)
        cases S s <;> simp only [cond_true, cond_false, List.length_cons] <;> omega
    exact this 8 0
  generalize hQ : (fun r M' => (r = some (vI (nI 0)) ∧ (¬ ∃ r, Vr (bt set) (lfB M 0) (DD cl br) 8 r) ∧ A19 M M') ∨ (r = some (vI (nI 1)) ∧ A19 M M' ∧ ∃ ρ, Fst (bt set) (lfB M 0) (DD cl br) 8 ρ ∧ ∀ t, t < 8 → bt set t = true → M'.1 19 0 t = b1 (ρ t - 1)) : Option AV → Me → Prop) = Q
  refine Mt.go ok_Packer_settle [13] 60 rfl ?_
  refine xc (d + 2 + 8) ok_Packer_search (c_search E d hD 8 0 set M hp hsm (hl8 _) (by omega) hw) (by omega) ?_
  rintro r M1 ⟨b, rfl, hb, hF1⟩
  refine brN (fun e => ?_) (fun e => ?_)
  · have hex := hb.mp e
    -- the stations one by one
    have outer : ∀ s, s ≤ 8 → ∀ (N : Me) (ρ : Nat → Nat), A19 M N → (∀ t, t < s → t < 8 → bt set t = true → N.1 19 0 t = b1 (ρ t - 1) ∧ 1 ≤ ρ t ∧ ρ t ≤ 10 ∧ lfB M 0 t (ρ t - 1) = true) → (∀ t, s ≤ t → t < 8 → N.1 19 0 t = M.1 19 0 t) → (∃ r, Vr (bt set) (lfB M 0) (DD cl br) 8 r ∧ ∀ t, t < s → bt set t = true → r t = ρ t) → (∀ r, Vr (bt set) (lfB M 0) (DD cl br) 8 r → (∀ t, t < s → bt set t = true → r t = ρ t) ∨ ∃ u, u < s ∧ bt set u = true ∧ (∀ t, t < u → bt set t = true → r t = ρ t) ∧ ρ u < r u) → ∀ j3 j4 j5, Wp E (d + 11) m_Packer_settle 13 [some (vP 14 0), some (vI set), some (vI (nI s)), j3, j4, j5] [] N Q := by
      refine loopUp 8 ?_ ?_
      · intro N ρ hA h1 h2 h3 h4 j3 j4 j5
        refine go ok_Packer_settle [] 60 ?_
        refine cLe (by omega) (by omega) (fun _ => ?_) (fun q => absurd q (by omega))
        rw [← hQ]
        refine And.intro (Or.inr rfl) (Or.inr ⟨rfl, hA, ρ, ⟨?_, h4⟩, fun t ht hS => (h1 t ht ht hS).1⟩)
        obtain ⟨r, hr, he⟩ := h3
        intro t ht hS
        obtain ⟨a1, a2⟩ := hr t ht hS
        rw [he t ht hS] at a1 a2
        refine ⟨a1, fun u hu hSu => ?_⟩
        rw [← he u (by omega) hSu]
        exact a2 u hu hSu
      · intro s hs ih N ρ hA h1 h2 h3 h4 j3 j4 j5
        refine go ok_Packer_settle [41] 60 ?_
        refine cLe (by omega) (by omega) (fun q => absurd q (by omega)) (fun _ => ?_)
        refine ix 0 (show _ < 9 by omega) rfl ?_
        refine ix s (show _ < 8 by omega) rfl ?_
        have hNs : N.1 19 0 s = M.1 19 0 s := h2 s (Nat.le_refl _) hs
        -- a station that is settled, or not in the set
        have done : ∀ (N : Me) (ρ' : Nat → Nat), A19 M N → (∀ t, t < s + 1 → t < 8 → bt set t = true → N.1 19 0 t = b1 (ρ' t - 1) ∧ 1 ≤ ρ' t ∧ ρ' t ≤ 10 ∧ lfB M 0 t (ρ' t - 1) = true) → (∀ t, s + 1 ≤ t → t < 8 → N.1 19 0 t = M.1 19 0 t) → (∃ r, Vr (bt set) (lfB M 0) (DD cl br) 8 r ∧ ∀ t, t < s + 1 → bt set t = true → r t = ρ' t) → (∀ r, Vr (bt set) (lfB M 0) (DD cl br) 8 r → (∀ t, t < s + 1 → bt set t = true → r t = ρ' t) ∨ ∃ u, u < s + 1 ∧ bt set u = true ∧ (∀ t, t < u → bt set t = true → r t = ρ' t) ∧ ρ' u < r u) → ∀ c, 1 ≤ c → c ≤ 11 → ∀ j3, Wp E (d + 11) m_Packer_settle 46 [some (vP 14 0), some (vI set), some (vI (nI s)), j3, some (vI (nI 1)), some (vI (nI c))] [] N Q := by
          intro N ρ' g1 g2 g3 g4 g5 c hc1 hc2 j3
          refine go ok_Packer_settle [13] 60 ?_
          refine cLt (by omega) (by omega) (fun _ => ?_) (fun _ => ?_)
          · exact nm_r (nI_add _ _) (ih N ρ' g1 g2 g3 g4 g5 _ _ _)
          · refine And.intro (fun _ => ?_) (fun e => absurd e (by decide))
            exact nm_r (nI_add _ _) (ih N ρ' g1 g2 g3 g4 g5 _ _ _)
        refine xq d ok_CS_has (c_has E d N set s (by omega)) (by omega) ?_
        refine brN (fun hbs => ?_) (fun hbs => ?_)
        · have inner : ∀ c, c ≤ 11 → 1 ≤ c → ∀ N, A19 M N → (∀ t, t < s → t < 8 → bt set t = true → N.1 19 0 t = b1 (ρ t - 1) ∧ 1 ≤ ρ t ∧ ρ t ≤ 10 ∧ lfB M 0 t (ρ t - 1) = true) → (∀ t, s + 1 ≤ t → t < 8 → N.1 19 0 t = M.1 19 0 t) → (∀ r, Vr (bt set) (lfB M 0) (DD cl br) 8 r → (∀ t, t < s → bt set t = true → r t = ρ t) → c ≤ r s) → Wp E (d + 11) m_Packer_settle 46 [some (vP 14 0), some (vI set), some (vI (nI s)), some (vI (M.1 19 0 s)), some (vI (nI 0)), some (vI (nI c))] [] N Q := by
            refine loopUp 11 ?_ ?_
            · intro _ N g1 g2 g3 g4
              obtain ⟨r, hr, he⟩ := h3
              have q1 := g4 r hr he
              obtain ⟨⟨-, a2⟩, -⟩ := hr s hs hbs
              unfold lfB at a2
              rw [hw s hs hbs (r s - 1) (by omega)] at a2
              cases a2
            · intro c hc ihc hc1 N g1 g2 g3 g4
              refine go ok_Packer_settle [46, 89] 60 ?_
              refine cLt (by omega) (by omega) (fun q => absurd q (by omega)) (fun _ => ?_)
              refine And.intro (fun e => absurd rfl e) (fun _ => ?_)
              refine xq d ok_CS_channelBit (c_channelBit E d N c hc1) (by omega) ?_
              have f89 : ∀ N v, Wp E (d + 11) m_Packer_settle 46 [some (vP 14 0), some (vI set), some (vI (nI s)), some (vI (M.1 19 0 s)), some (vI v), some (vI (nI (c + 1)))] [] N Q → Wp E (d + 11) m_Packer_settle 89 [some (vP 14 0), some (vI set), some (vI (nI s)), some (vI (M.1 19 0 s)), some (vI v), some (vI (nI c))] [] N Q := by
                intro N v hN
                refine go ok_Packer_settle [46] 60 ?_
                exact nm_r (nI_add _ _) hN
              refine And.intro (fun w => ?_) (fun w => ?_)
              · refine f89 N _ (ihc (by omega) N g1 g2 g3 (fun r hr he => ?_))
                have q1 := g4 r hr he
                have q2 : r s ≠ c := fun z => by
                  obtain ⟨⟨-, a2⟩, -⟩ := hr s hs hbs
                  unfold lfB at a2
                  rw [z, (and_b1 (show c - 1 < 32 by omega)).mp w] at a2
                  cases a2
                omega
              · have hb2 : bt (M.1 19 0 s) (c - 1) = true := by
                  cases hz : bt (M.1 19 0 s) (c - 1) with
                  | true => rfl
                  | false => exact absurd ((and_b1 (show c - 1 < 32 by omega)).mpr hz) w
                refine ix 0 (show _ < 9 by omega) rfl ?_
                refine xq d ok_CS_channelBit (c_channelBit E d N c hc1) (by omega) ?_
                refine ix s (show _ < 8 by omega) rfl ?_
                have n1 : A19 M (sI N 19 0 s (b1 (c - 1))) := A19_sI g1
                have n2 : ∀ t, t < s + 1 → t < 8 → bt set t = true → (sI N 19 0 s (b1 (c - 1))).1 19 0 t = b1 (upN ρ s c t - 1) ∧ 1 ≤ upN ρ s c t ∧ upN ρ s c t ≤ 10 ∧ lfB M 0 t (upN ρ s c t - 1) = true := by
                  intro t ht h8 hS
                  rw [sI_at]
                  by_cases e : t = s
                  · rw [if_pos ⟨rfl, rfl, e⟩, e, upN_same]
                    exact ⟨rfl, hc1, by omega, hb2⟩
                  · rw [if_neg (fun z => e z.2.2), upN_ne e]
                    exact g2 t (by omega) h8 hS
                have n3 : ∀ t, s + 1 ≤ t → t < 8 → (sI N 19 0 s (b1 (c - 1))).1 19 0 t = M.1 19 0 t := by
                  intro t ht h8
                  rw [sI_at, if_neg (by omega)]
                  exact g3 t ht h8
                have hwN : Lw (sI N 19 0 s (b1 (c - 1))) 0 set := by
                  intro t ht hS i hi
                  rcases Nat.lt_or_ge t (s + 1) with e | e
                  · obtain ⟨u1, u2, u3, -⟩ := n2 t e ht hS
                    rw [u1]
                    rcases Nat.lt_or_ge i 32 with q | q
                    · rw [b1_at (by omega) q]
                      exact decide_eq_false (by omega)
                    · exact b_big q
                  · rw [n3 t e ht]
                    exact hw t ht hS i hi
                refine xc (d + 2 + 8) ok_Packer_search (c_search E d hD 8 0 set _ (n1.pk hp) hsm (hl8 _) (by omega) hwN) (by omega) ?_
                rintro r M2 ⟨b2, rfl, hbx, hF2⟩
                have hsg := sgl (S := bt set) (D := DD cl br) n2 n3
                have hA2 : A19 M M2 := n1.tr hF2.a
                have n2' : ∀ t, t < s + 1 → t < 8 → bt set t = true → M2.1 19 0 t = b1 (upN ρ s c t - 1) ∧ 1 ≤ upN ρ s c t ∧ upN ρ s c t ≤ 10 ∧ lfB M 0 t (upN ρ s c t - 1) = true := by
                  intro t ht h8 hS
                  rw [hF2.at t]
                  exact n2 t ht h8 hS
                have n3' : ∀ t, s + 1 ≤ t → t < 8 → M2.1 19 0 t = M.1 19 0 t := by
                  intro t ht h8
                  rw [hF2.at t]
                  exact n3 t ht h8
                cases b2 with
                | true =>
                  refine f89 M2 _ (done M2 (upN ρ s c) hA2 n2' n3' ?_ ?_ (c + 1) (by omega) (by omega) _)
                  · obtain ⟨r, hr⟩ := hbx.mp rfl
                    obtain ⟨v1, v2⟩ := (hsg r).mp hr
                    exact ⟨r, v1, fun t ht hS => v2 t ht (by omega) hS⟩
                  · intro r hr
                    rcases h4 r hr with q | ⟨u, u1, u2, u3, u4⟩
                    · have q1 := g4 r hr q
                      rcases Nat.eq_or_lt_of_le q1 with q2 | q2
                      · refine Or.inl (fun t ht hS => ?_)
                        by_cases e : t = s
                        · rw [e, upN_same, ← q2]
                        · rw [upN_ne e]; exact q t (by omega) hS
                      · refine Or.inr ⟨s, by omega, hbs, fun t ht hS => ?_, by rw [upN_same]; exact q2⟩
                        rw [upN_ne (by omega)]; exact q t ht hS
                    · refine Or.inr ⟨u, by omega, u2, fun t ht hS => ?_, ?_⟩
                      · rw [upN_ne (by omega)]; exact u3 t ht hS
                      · rw [upN_ne (by omega)]; exact u4
                | false =>
                  refine f89 M2 _ (ihc (by omega) M2 hA2 (fun t ht h8 hS => ?_) n3' (fun r hr he => ?_))
                  · have := n2' t (by omega) h8 hS
                    rw [upN_ne (by omega)] at this
                    exact this
                  · have q1 := g4 r hr he
                    have q2 : r s ≠ c := fun z => by
                      have := hbx.mpr ⟨r, (hsg r).mpr ⟨hr, fun t ht h8 hS => by
                        by_cases e : t = s
                        · rw [e, upN_same, z]
                        · rw [upN_ne e]; exact he t (by omega) hS⟩⟩
                      cases this
                    omega
          refine go ok_Packer_settle [46] 60 ?_
          have := inner 1 (by omega) (by omega) N hA h1 (fun t ht h8 => h2 t (by omega) h8) (fun r hr _ => ((hr s hs hbs).1).1)
          rw [← hNs] at this
          exact this
        · refine go ok_Packer_settle [46] 60 ?_
          have hS0 : ∀ t, t < s + 1 → bt set t = true → t < s := fun t ht hS => by
            rcases Nat.lt_or_ge t s with e | e
            · exact e
            · rw [show t = s by omega, hbs] at hS; cases hS
          refine done N ρ hA (fun t ht h8 hS => h1 t (hS0 t ht hS) h8 hS) (fun t ht h8 => h2 t (by omega) h8) ?_ ?_ 1 (by omega) (by omega) _
          · obtain ⟨r, hr, he⟩ := h3
            exact ⟨r, hr, fun t ht hS => he t (hS0 t ht hS) hS⟩
          · intro r hr
            rcases h4 r hr with q | ⟨u, u1, u2, u3, u4⟩
            · exact Or.inl (fun t ht hS => q t (hS0 t ht hS) hS)
            · exact Or.inr ⟨u, by omega, u2, u3, u4⟩
    obtain ⟨r0, hr0⟩ := hex
    exact outer 0 (by omega) M1 (fun _ => 0) hF1.a (fun t ht => absurd ht (Nat.not_lt_zero _)) (fun t _ _ => hF1.at t) ⟨r0, hr0, fun t ht => absurd ht (Nat.not_lt_zero _)⟩ (fun r _ => Or.inl (fun t ht => absurd ht (Nat.not_lt_zero _))) none none none
  · rw [← hQ]
    refine And.intro (Or.inl rfl) (Or.inl ⟨rfl, fun q => ?_, hF1.a⟩)
    rw [hb.mpr q] at e; cases e
theorem c_settledChannel (M : Me) (s c0 : Nat) (hs : s < 8) (h1 : 1 ≤ c0) (h2 : c0 ≤ 10) (h : M.1 19 0 s = b1 (c0 - 1)) : Mt E (d + 1) m_Packer_settledChannel [vP 14 0, vI (nI s)] M (RP (vI (nI c0)) M) := by
  have key : ∀ c, c ≤ c0 → 1 ≤ c → Wp E (d + 1) m_Packer_settledChannel 14 [some (vP 14 0), some (vI (nI s)), some (vI (nI c))] [] M (RP (vI (nI c0)) M) := by
    have stp : ∀ c, c ≤ c0 → 1 ≤ c → (c ≠ c0 → Wp E (d + 1) m_Packer_settledChannel 14 [some (vP 14 0), some (vI (nI s)), some (vI (nI (c + 1)))] [] M (RP (vI (nI c0)) M)) → Wp E (d + 1) m_Packer_settledChannel 14 [some (vP 14 0), some (vI (nI s)), some (vI (nI c))] [] M (RP (vI (nI c0)) M) := by
      intro c hc hc1 hn
      refine go ok_Packer_settledChannel [14] 60 ?_
      refine cLt (by omega) (by omega) (fun q => absurd q (by omega)) (fun _ => ?_)
      refine ix 0 (show _ < 9 by omega) rfl ?_
      refine ix s (show _ < 8 by omega) rfl ?_
      refine xq d ok_CS_channelBit (c_channelBit E d M c hc1) (by omega) ?_
      refine And.intro (fun w => ?_) (fun w => ?_)
      · refine nm_r (nI_add _ _) (hn (fun e => w ?_))
        rw [e]; exact h
      · have w : M.1 19 0 s = b1 (c - 1) := w
        rw [h] at w
        have := b1_inj (by omega) (by omega) w
        refine And.intro ?_ rfl
        rw [show c = c0 by omega]
    refine loopUp c0 ?_ ?_
    · intro hc1
      exact stp c0 (Nat.le_refl _) hc1 (fun e => absurd rfl e)
    · intro c hc ih hc1
      exact stp c (by omega) hc1 (fun _ => ih (by omega))
  refine Mt.go ok_Packer_settledChannel [14] 60 rfl ?_
  refine cLt (by omega) (by omega) (fun q => absurd q (by omega)) (fun _ => ?_)
  refine cLt (by omega) (by omega) (fun _ => ?_) (fun q => absurd q (by omega))
  exact key 1 h1 (Nat.le_refl _)
end K3
/-! what is known -/
def PFit (ls cl br : Nat → Int32) (set : Int32) (m : Nat) : Prop := ∃ r, Vr (bt set) (fun t i => bt (ls t) i && decide (i < m)) (DD cl br) 8 r
/-- no set fits fewer channels than noted for it -/
def NdB (cl br : Nat → Int32) (N : Me) (k : Nat) : Prop := ∀ x, x < k → ∃ v, N.1 27 0 x = nI v ∧ v ≤ 15 ∧ ∀ ls m, PFit ls cl br (nI x) m → v ≤ m
def NdK (M : Me) (q : Nat) : Prop := NdB (M.1 16 0) (M.1 17 0) M (2 ^ q)
def KNd (M : Me) (a : Nat) : Prop := ∃ q, M.1 14 0 6 = nI q ∧ q ≤ 8 ∧ (1 ≤ q → 1 ≤ a) ∧ NdK M q
theorem NdK_fr {M N : Me} {q : Nat} (h16 : N.1 16 0 = M.1 16 0) (h17 : N.1 17 0 = M.1 17 0) (h27 : N.1 27 0 = M.1 27 0) (h : NdK M q) : NdK N q := by
  unfold NdK NdB
  rw [h16, h17, h27]
  exact h
theorem KNd_fr {M N : Me} {a : Nat} (h14 : N.1 14 0 6 = M.1 14 0 6) (h16 : N.1 16 0 = M.1 16 0) (h17 : N.1 17 0 = M.1 17 0) (h27 : N.1 27 0 = M.1 27 0) (h : KNd M a) : KNd N a := by
  obtain ⟨q, q1, q2, q3, q4⟩ := h
  exact ⟨q, h14.trans q1, q2, q3, NdK_fr h16 h17 h27 q4⟩
def KNm (M : Me) (n : Nat) : Prop := n < 2000 ∧ ∃ a, (M.1 14 0 7 = nI a ∧ KNd M a) ∧ a ≤ n ∧ ∀ k, k < 2816 → ∃ v, M.1 20 0 k = nI v ∧ v / 2 ≤ a ∧ (1 ≤ a → v / 2 = a → (v % 2 = 1 ↔ PFit (M.1 15 0) (M.1 16 0) (M.1 17 0) (nI (k % 256)) (k / 256)))
def Kage (M : Me) : Prop := ¬ M.1 14 0 7 = nI 0
def LsOK (M : Me) : Prop := ∀ s, s < 8 → ∀ i, 10 ≤ i → bt (M.1 15 0 s) i = false
/-- behind a search and what it notes -/
def FP (M M' : Me) : Prop := (∀ i r k, i ≠ 19 → i ≠ 20 → M'.1 i r k = M.1 i r k) ∧ M'.2 = M.2
theorem FP.rf (M : Me) : FP M M := ⟨fun _ _ _ _ _ => rfl, rfl⟩
theorem FP.tr {M M' M'' : Me} (h : FP M M') (h' : FP M' M'') : FP M M'' := ⟨fun i r k e e' => (h'.1 i r k e e').trans (h.1 i r k e e'), h'.2.trans h.2⟩
theorem A19.fp {M M' : Me} (h : A19 M M') : FP M M' := ⟨fun i r k e _ => h.1 i r k e, h.2⟩
theorem ones_bt {m i : Nat} (hm : m < 31) (hi : i < 32) : bt (nI (2 ^ m - 1)) i = decide (i < m) := by
  rw [← ones_eq m hm]; exact ones_at m hm i hi
theorem begin_lf {M : Me} {set : Int32} {m t : Nat} (hm : m ≤ 10) (ht : t < 8) (hS : bt set t = true) (i : Nat) : lfB (setR M 19 0 0 8 (fun s => bif bt set s then M.1 15 0 s &&& nI (2 ^ m - 1) else nI 0)) 0 t i = (bt (M.1 15 0 t) i && decide (i < m)) := by
  unfold lfB
  have : (setR M 19 0 0 8 (fun s => bif bt set s then M.1 15 0 s &&& nI (2 ^ m - 1) else nI 0)).1 19 0 t = M.1 15 0 t &&& nI (2 ^ m - 1) := by
    have h := setR_at (M := M) (i := 19) (r := 0) (lo := 0) (n := 8) (f := fun s => bif bt set s then M.1 15 0 s &&& nI (2 ^ m - 1) else nI 0) (k := t) ht
    rw [Nat.zero_add] at h
    rw [h, hS]; rfl
  rw [this, b_and]
  rcases Nat.lt_or_ge i 32 with e | e
  · rw [ones_bt (by omega) e]
  · rw [b_big e]; rfl
theorem Vr_dd {S : Nat → Bool} {F : Nat → Nat → Bool} {cl br cl' br' : Nat → Int32} (h : ∀ s, s < 8 → cl s = cl' s ∧ br s = br' s) {r : Nat → Nat} (hr : Vr S F (DD cl br) 8 r) : Vr S F (DD cl' br') 8 r := by
  intro t ht hS
  obtain ⟨a1, a2⟩ := hr t ht hS
  refine ⟨a1, fun u hu hSu => ?_⟩
  have := a2 u hu hSu
  unfold DD at this ⊢
  rw [← (h t ht).1, ← (h t ht).2]
  exact this
section K4
variable (E : EV) (d : Nat) {cl br : Nat → Int32}
theorem c_packs (M : Me) (n : Nat) (q : Nat) (hK : KNm M n) (hA : Kage M) (hq : M.1 14 0 6 = nI q) (hq8 : q ≤ 8) (hp : PkD M cl br) (hD : Dsy (DD cl br)) (x m : Nat) (hx : x < 256) (hxq : x < 2 ^ q) (hm : m ≤ 10) : Mt E (d + 11) m_Packer_packs [vP 14 0, vI (nI x), vI (nI m)] M (fun r M' => ∃ b, r = some (vI (bI b)) ∧ (b = true ↔ PFit (M.1 15 0) (M.1 16 0) (M.1 17 0) (nI x) m) ∧ FP M M' ∧ KNm M' n) := by
  obtain ⟨hn, a, ⟨ha, hNd⟩, han, hk⟩ := id hK
  obtain ⟨v0, hv0, hv15, hvP⟩ : ∃ v, M.1 27 0 x = nI v ∧ v ≤ 15 ∧ ∀ ls m, PFit ls (M.1 16 0) (M.1 17 0) (nI x) m → v ≤ m := by
    obtain ⟨q', q1, q2, -, q4⟩ := id hNd
    have e : q' = q := (nI_eq (by omega) (by omega)).mp (q1.symm.trans hq)
    subst e
    exact q4 x hxq
  have ha1 : 1 ≤ a := by
    rcases Nat.eq_zero_or_pos a with e | e
    · rw [e] at ha; exact absurd ha hA
    · exact e
  have hat : m * 256 + x < 2816 := by omega
  have e1 : (m * 256 + x) % 256 = x := by omega
  have e2 : (m * 256 + x) / 256 = m := by omega
  have hsm : isSm (nI x) := ⟨x, hx, rfl⟩
  refine Mt.go ok_Packer_packs [89] 60 rfl ?_
  -- the answer
  have fin : ∀ N v, FP M N → KNm N n → N.1 20 0 (m * 256 + x) = nI v → v < 2 ^ 31 → (v % 2 = 1 ↔ PFit (M.1 15 0) (M.1 16 0) (M.1 17 0) (nI x) m) → Wp E (d + 11) m_Packer_packs 89 [some (vP 14 0), some (vI (nI x)), some (vI (nI m)), some (vI (nI (m * 256 + x)))] [] N (fun r M' => ∃ b, r = some (vI (bI b)) ∧ (b = true ↔ PFit (M.1 15 0) (M.1 16 0) (M.1 17 0) (nI x) m) ∧ FP M M' ∧ KNm M' n) := by
    intro N v hF hKN hv hv31 hiff
    refine go ok_Packer_packs [] 60 ?_
    refine ix (m * 256 + x) hat rfl ?_
    have hb0 : bt (nI v) 0 = decide (v % 2 = 1) := by
      rw [b_nI _ (by omega), Nat.testBit_zero]
    refine And.intro (fun w => ?_) (fun w => ?_)
    · have w : N.1 20 0 (m * 256 + x) &&& b1 0 = nI 0 := w
      rw [hv] at w
      have := (and_b1 (show 0 < 32 by omega)).mp w
      rw [hb0] at this
      refine And.intro (Or.inl rfl) ⟨false, rfl, ⟨fun e => (by cases e), fun e => ?_⟩, hF, hKN⟩
      exact absurd (hiff.mpr e) (of_decide_eq_false this)
    · have w : ¬ N.1 20 0 (m * 256 + x) &&& b1 0 = nI 0 := w
      rw [hv] at w
      have : v % 2 = 1 := by
        refine Classical.byContradiction fun q => w ((and_b1 (show 0 < 32 by omega)).mpr ?_)
        rw [hb0]; exact decide_eq_false q
      exact And.intro (Or.inr rfl) ⟨true, rfl, ⟨fun _ => hiff.mp this, fun _ => rfl⟩, hF, hKN⟩
  refine cLt (by omega) (by omega) (fun q => absurd q (by omega)) (fun _ => ?_)
  refine cLe (by omega) (by omega) (fun q => absurd q (by omega)) (fun _ => ?_)
  refine cLt (by omega) (by omega) (fun q => absurd q (by omega)) (fun _ => ?_)
  refine cLe (by omega) (by omega) (fun _ => ?_) (fun q => absurd q (by omega))
  have hidx : nI m * nI 256 + nI x = nI (m * 256 + x) := by rw [nI_mul, nI_s8]
  obtain ⟨v, hv, hva, hvi⟩ := hk (m * 256 + x) hat
  rw [e1, e2] at hvi
  have hshr : M.1 20 0 (m * 256 + x) >>> (nI 1 &&& 31) = nI (v / 2) := by
    rw [hv]
    exact pk_shrN (by omega) _ 1 (by decide)
  refine ix (m * 256 + x) hat hidx ?_
  refine qEq hshr ha (by omega) (by omega) (fun w => ?_) (fun w => ?_)
  · have := fin M v (FP.rf M) hK hv (by omega) (hvi ha1 w)
    rw [← hidx] at this
    exact this
  · refine xc (d + 1) ok_Packer_begin (c_begin E d M (nI x) m hm) (by omega) ?_
    rintro r M1 ⟨rfl, rfl⟩
    generalize hM1 : setR M 19 0 0 8 (fun s => bif bt (nI x) s then M.1 15 0 s &&& nI (2 ^ m - 1) else nI 0) = M1
    have hA1 : A19 M M1 := by
      rw [← hM1]
      exact ⟨fun i r k e => setR_out (fun z => e z.1), rfl⟩
    have hlf : ∀ t, t < 8 → bt (nI x) t = true → ∀ i, lfB M1 0 t i = (bt (M.1 15 0 t) i && decide (i < m)) := by
      intro t ht hS i
      rw [← hM1]; exact begin_lf hm ht hS i
    have hw1 : Lw M1 0 (nI x) := by
      intro t ht hS i hi
      have := hlf t ht hS i
      unfold lfB at this
      rw [this, decide_eq_false (by omega), Bool.and_false]
    have hpk : PkD M1 cl br := hA1.pk hp
    have hdd : ∀ s, s < 8 → cl s = M.1 16 0 s ∧ br s = M.1 17 0 s := fun s hs => ⟨(hp s hs).1.symm, (hp s hs).2.symm⟩
    have hdd' : ∀ s, s < 8 → M.1 16 0 s = cl s ∧ M.1 17 0 s = br s := fun s hs => hp s hs
    have hlen : (stL (bt (nI x)) 8 0).length ≤ 8 := by
      have : ∀ k s, (stL (bt (nI x)) k s).length ≤ k := by
        intro k
        induction k with
        | zero => intro s; exact Nat.le_refl _
        | succ k ih =>
          intro s
          rw [stL]
          have := ih (s + 1)
          cases bt (nI x) s <;> simp only [cond_true, cond_false, List.length_cons] <;> omega
      exact this 8 0
    have f77 : ∀ M2 : Me, A19 M M2 → ∀ c : Nat, c < 2 → (c = 1 ↔ PFit (M.1 15 0) (M.1 16 0) (M.1 17 0) (nI x) m) → Wp E (d + 11) m_Packer_packs 89 [some (vP 14 0), some (vI (nI x)), some (vI (nI m)), some (vI (nI (m * 256 + x)))] [] (sI M2 20 0 (m * 256 + x) (nI (2 * a + c))) (fun r M' => ∃ b, r = some (vI (bI b)) ∧ (b = true ↔ PFit (M.1 15 0) (M.1 16 0) (M.1 17 0) (nI x) m) ∧ FP M M' ∧ KNm M' n) := by
      intro M2 hA2 c hc hci
      refine fin _ (2 * a + c) ⟨fun i r k i1 i2 => ?_, hA2.2⟩ ⟨hn, a, ⟨?_, KNd_fr ?_ ?_ ?_ ?_ hNd⟩, han, fun k hk2 => ?_⟩ ?_ (by omega) ?_
      · rw [sI_at, if_neg (fun z => i2 z.1)]
        exact hA2.1 i r k i1
      · rw [sI_at, if_neg (by omega), hA2.1 14 0 7 (by omega)]
        exact ha
      · rw [sI_at, if_neg (by omega), hA2.1 14 0 6 (by omega)]
      · funext k; rw [sI_at, if_neg (by omega), hA2.1 16 0 k (by omega)]
      · funext k; rw [sI_at, if_neg (by omega), hA2.1 17 0 k (by omega)]
      · funext k; rw [sI_at, if_neg (by omega), hA2.1 27 0 k (by omega)]
      · rw [sI_at]
        have c15 : (sI M2 20 0 (m * 256 + x) (nI (2 * a + c))).1 15 0 = M.1 15 0 := by
          funext k; rw [sI_at, if_neg (by omega), hA2.1 15 0 k (by omega)]
        have c16 : (sI M2 20 0 (m * 256 + x) (nI (2 * a + c))).1 16 0 = M.1 16 0 := by
          funext k; rw [sI_at, if_neg (by omega), hA2.1 16 0 k (by omega)]
        have c17 : (sI M2 20 0 (m * 256 + x) (nI (2 * a + c))).1 17 0 = M.1 17 0 := by
          funext k; rw [sI_at, if_neg (by omega), hA2.1 17 0 k (by omega)]
        rw [c15, c16, c17]
        by_cases e : k = m * 256 + x
        · rw [if_pos ⟨rfl, rfl, e⟩]
          refine ⟨2 * a + c, rfl, by omega, fun _ _ => ?_⟩
          rw [e, e1, e2, ← hci]
          omega
        · rw [if_neg (fun z => e z.2.2), hA2.1 20 0 k (by omega)]
          exact hk k hk2
      · rw [sI_at, if_pos ⟨rfl, rfl, rfl⟩]
      · rw [← hci]; omega
    have hM1a : M1.1 14 0 7 = nI a := by rw [hA1.1 14 0 7 (by omega)]; exact ha
    have hM1v : M1.1 27 0 x = nI v0 := by rw [hA1.1 27 0 x (by omega)]; exact hv0
    have ev : ∀ c, nI 2 * M1.1 14 0 7 + nI c = nI (2 * a + c) := fun c => by rw [hM1a, nI_mul, nI_s8]
    refine ix x (show _ < 256 by omega) rfl ?_
    refine qLt (a := m) (b := v0) rfl hM1v (by omega) (by omega) (fun w => ?_) (fun w => ?_)
    · refine ix (m * 256 + x) hat hidx ?_
      have := f77 M1 hA1 0 (by omega) ⟨fun z => (by cases z), fun z => absurd (hvP _ _ z) (by omega)⟩
      rw [← ev, ← hidx] at this
      exact this
    refine xc (d + 2 + 8) ok_Packer_search (c_search E d hD 8 0 (nI x) M1 hpk hsm hlen (by omega) hw1) (by omega) ?_
    rintro r M2 ⟨b, rfl, hb, hF2⟩
    have hA2 : A19 M M2 := hA1.tr hF2.a
    have hb' : b = true ↔ PFit (M.1 15 0) (M.1 16 0) (M.1 17 0) (nI x) m := by
      rw [hb]
      exact ⟨fun ⟨r, hr⟩ => ⟨r, Vr_dd hdd (Vr_cg (fun _ _ => rfl) hlf hr)⟩, fun ⟨r, hr⟩ => ⟨r, Vr_dd hdd' (Vr_cg (fun _ _ => rfl) (fun t ht hS i => (hlf t ht hS i).symm) hr)⟩⟩
    refine brF (fun e => ?_) (fun e => ?_)
    · refine ix (m * 256 + x) hat hidx ?_
      have := f77 M2 hA2 0 (by omega) ⟨fun z => (by cases z), fun z => by rw [hb'.mpr z] at e; cases e⟩
      rw [← ev, ← hidx] at this
      exact this
    · refine ix (m * 256 + x) hat hidx ?_
      have := f77 M2 hA2 1 (by omega) ⟨fun _ => hb'.mp e, fun _ => rfl⟩
      rw [← ev, ← hidx] at this
      exact this
end K4
