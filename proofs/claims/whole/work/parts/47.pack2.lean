/-! the class: the packer's search and count -/
theorem Vr_cg {S S' : Nat → Bool} {F G : Nat → Nat → Bool} {D : DT} {n : Nat} {r : Nat → Nat} (hS : ∀ t, t < n → S t = S' t) (h : ∀ t, t < n → S t = true → ∀ i, F t i = G t i) (hr : Vr S F D n r) : Vr S' G D n r := by
  intro t ht hSt
  rw [← hS t ht] at hSt
  obtain ⟨⟨a1, a2⟩, a3⟩ := hr t ht hSt
  exact ⟨⟨a1, by rw [← h t ht hSt]; exact a2⟩, fun u hu hSu => a3 u hu (by rw [hS u (by omega)]; exact hSu)⟩
theorem set_ne {set : Int32} (hs : isSm set) (h : ¬ set = nI 0) : ∃ t, t < 8 ∧ bt set t = true := by
  refine Classical.byContradiction fun q => h ?_
  apply b_ext
  intro i hi
  rw [b_0]
  cases hb : bt set i with
  | false => rfl
  | true =>
    rcases Nat.lt_or_ge i 8 with e | e
    · exact absurd ⟨i, e, hb⟩ q
    · rw [isSm_bt hs e] at hb; cases hb
theorem s_m1 : ∀ s, s < 8 → ¬ nI s = -(nI 1) := by decide
theorem outS_sm {set : Int32} {s : Nat} (hs : s < 32) (h : isSm set) : isSm (outS set s) := isSm_of fun i hi h32 => by rw [outS_at hs h32, isSm_bt h hi]; rfl
theorem outS_len {set : Int32} {s k : Nat} (hs : s < 8) (hb : bt set s = true) (h : (stL (bt set) 8 0).length ≤ k + 1) : (stL (bt (outS set s)) 8 0).length ≤ k := by
  have := (stL_pm (S' := bt (outS set s)) hs hb (fun t ht => outS_at (by omega) (by omega))).length_eq
  rw [List.length_cons] at this
  omega
theorem len_pos {set : Int32} {t : Nat} (ht : t < 8) (hb : bt set t = true) : 1 ≤ (stL (bt set) 8 0).length := by
  have := (stL_mem (S := bt set) 8 0 t).mpr ⟨Nat.zero_le _, by omega, hb⟩
  exact List.length_pos_of_mem this
theorem ch_one {x : Int32} {j : Nat} (hj : j < 32) (h : bt x j = true) : x &&& b1 j = b1 j := by
  apply b_ext
  intro i hi
  rw [b_and, b1_at hj hi]
  by_cases e : i = j
  · subst e; rw [h]; rfl
  · rw [decide_eq_false e, Bool.and_false]
theorem rst_tk {cl br : Nat → Int32} {M N : Me} {δ s c : Nat} (hc : 1 ≤ c) (hc2 : c ≤ 10) {t : Nat} (h : N.1 19 (δ + 1) t = tkV cl br s c t (M.1 19 δ t)) (i : Nat) : lfB N (δ + 1) t i = rst (DD cl br) (lfB M δ) s (c - 1) t i := by
  unfold lfB rst
  rw [h, show c - 1 + 1 = c by omega]
  rcases Nat.lt_or_ge i 32 with e | e
  · exact tkV_at hc hc2 e
  · rw [b_big e]
    show false = (bt (M.1 19 δ t) i && _)
    rw [b_big e]; rfl
theorem sumN_le {f : Nat → Nat} {m : Nat} : ∀ (k : Nat), sumN f m ≤ sumN f (m + k)
  | 0 => Nat.le_refl _
  | k + 1 => by
    have := sumN_le (f := f) (m := m) k
    rw [show m + (k + 1) = (m + k) + 1 by omega, sumN]
    omega
theorem bcS : ∀ k, k < 1024 → aBits (nI k) 16 = nI (sumN (fun i => bif bt (nI k) i then 1 else 0) 10) := by decide +kernel
theorem sum10 (f : Nat → Bool) : ∀ (n : Nat), sumN (fun i => bif f i then 1 else 0) n ≤ n
  | 0 => Nat.le_refl _
  | n + 1 => by
    have := sum10 f n
    rw [sumN]
    cases f n <;> simp only [cond_true, cond_false] <;> omega
section K2
variable (E : EV) (d : Nat) {cl br : Nat → Int32}
theorem c_search (hD : Dsy (DD cl br)) : ∀ (k δ : Nat) (set : Int32) (M : Me), PkD M cl br → isSm set → (stL (bt set) 8 0).length ≤ k → δ + k ≤ 8 → Lw M δ set → Mt E (d + 2 + k) m_Packer_search [vP 14 0, vI (nI δ), vI set] M (fun r M' => ∃ b, r = some (vI (bI b)) ∧ (b = true ↔ ∃ r, Vr (bt set) (lfB M δ) (DD cl br) 8 r) ∧ F19 δ M M') := by
  intro k
  induction k with
  | zero =>
    intro δ set M hp hsm hlen hδ hw
    refine Mt.go ok_Packer_search [] 60 rfl ?_
    refine And.intro (fun q => ?_) (fun q => ?_)
    · obtain ⟨t, ht, hb⟩ := set_ne hsm q
      have := len_pos ht hb
      omega
    · refine And.intro (Or.inr rfl) ⟨true, rfl, ⟨fun _ => ⟨fun _ => 0, fun t ht hS => ?_⟩, fun _ => rfl⟩, F19.rf δ M⟩
      rw [q, b_0] at hS; cases hS
  | succ k ih =>
    intro δ set M hp hsm hlen hδ hw
    refine Mt.go ok_Packer_search [45] 60 rfl ?_
    refine And.intro (fun q => ?_) (fun q => ?_)
    · have hne := set_ne hsm q
      refine cLt (by omega) (by omega) (fun q => absurd q (by omega)) (fun _ => ?_)
      refine cLt (by omega) (by omega) (fun _ => ?_) (fun q => absurd q (by omega))
      refine xc (d + 1) ok_Packer_tightest (c_tightest E d M δ (by omega) set hw hne) (by omega) ?_
      rintro r M1 ⟨rfl, s, hs, hbs, rfl⟩
      refine And.intro (fun _ => ?_) (fun e => absurd e (s_m1 s hs))
      refine ix δ (show _ < 9 by omega) rfl ?_
      refine ix s (show _ < 8 by omega) rfl ?_
      have hstep := Vr_step (S := bt set) (S' := bt (outS set s)) (F := lfB M1 δ) hD (n := 8) (s := s) hs hbs (fun t ht => outS_at (by omega) (by omega)) (fun i hi => by
        rcases Nat.lt_or_ge i 10 with e | e
        · exact e
        · unfold lfB at hi
          rw [hw s hs hbs i e] at hi; cases hi)
      have key : ∀ c, c ≤ 11 → 1 ≤ c → ∀ N, F19 δ M1 N → (∀ i, i + 1 < c → ¬ (lfB M1 δ s i = true ∧ ∃ r, Vr (bt (outS set s)) (rst (DD cl br) (lfB M1 δ) s i) (DD cl br) 8 r)) → ∀ j6, Wp E (d + 2 + (k + 1)) m_Packer_search 45 [some (vP 14 0), some (vI (nI δ)), some (vI set), some (vI (nI s)), some (vI (M1.1 19 δ s)), some (vI (nI c)), j6] [] N (fun r M' => ∃ b, r = some (vI (bI b)) ∧ (b = true ↔ ∃ r, Vr (bt set) (lfB M1 δ) (DD cl br) 8 r) ∧ F19 δ M1 M') := by
        refine loopUp 11 ?_ ?_
        · intro _ N hF hno j6
          refine go ok_Packer_search [45] 60 ?_
          refine cLt (by omega) (by omega) (fun _ => ?_) (fun q => absurd q (by omega))
          refine And.intro (Or.inl rfl) ⟨false, rfl, ⟨fun e => (by cases e), fun e => ?_⟩, hF⟩
          obtain ⟨i, hi, h1, h2⟩ := hstep.mp e
          exact absurd ⟨h1, h2⟩ (hno i (by omega))
        · intro c hc ihc hc1 N hF hno j6
          refine go ok_Packer_search [45] 60 ?_
          refine cLt (by omega) (by omega) (fun q => absurd q (by omega)) (fun _ => ?_)
          refine xq d ok_CS_channelBit (c_channelBit E d N c hc1) (by omega) ?_
          have nxt' : ∀ N, F19 δ M1 N → ¬ (lfB M1 δ s (c - 1) = true ∧ ∃ r, Vr (bt (outS set s)) (rst (DD cl br) (lfB M1 δ) s (c - 1)) (DD cl br) 8 r) → ∀ j6, Wp E (d + 2 + (k + 1)) m_Packer_search 45 [some (vP 14 0), some (vI (nI δ)), some (vI set), some (vI (nI s)), some (vI (M1.1 19 δ s)), some (vI (nI (c + 1))), j6] [] N (fun r M' => ∃ b, r = some (vI (bI b)) ∧ (b = true ↔ ∃ r, Vr (bt set) (lfB M1 δ) (DD cl br) 8 r) ∧ F19 δ M1 M') := by
            intro N hF hn j6
            refine ihc (by omega) N hF (fun i hi => ?_) j6
            by_cases e : i + 1 = c
            · rw [show i = c - 1 by omega]; exact hn
            · exact hno i (by omega)
          refine And.intro (fun w => ?_) (fun w => ?_)
          · refine nm_r (nI_add _ _) (nxt' N hF (fun z => ?_) _)
            have := (and_b1 (show c - 1 < 32 by omega)).mp w
            unfold lfB at z
            rw [this] at z
            exact absurd z.1 (by decide)
          · have hb : bt (M1.1 19 δ s) (c - 1) = true := by
              cases hz : bt (M1.1 19 δ s) (c - 1) with
              | true => rfl
              | false => exact absurd ((and_b1 (show c - 1 < 32 by omega)).mpr hz) w
            have hone := ch_one (show c - 1 < 32 by omega) hb
            have hx := c_take E d N (hF.pk hp) δ (by omega) set s c hs hc1 (by omega)
            rw [← hone] at hx
            refine xc (d + 1) ok_Packer_take hx (by omega) ?_
            rintro r M2 ⟨hF2, h2⟩
            rcases h2 with ⟨rfl, t, ht, hbt, hz⟩ | ⟨rfl, hv⟩
            · refine And.intro (fun _ => ?_) (fun e => absurd rfl e)
              refine nm_r (nI_add _ _) (nxt' M2 (hF.tr hF2) (fun z => ?_) _)
              obtain ⟨-, r, hr⟩ := z
              obtain ⟨⟨a1, a2⟩, -⟩ := hr t ht hbt
              unfold rst lfB at a2
              rw [show c - 1 + 1 = c by omega] at a2
              rw [hF.at t] at hz
              have h32 : r t - 1 < 32 := by
                rcases Nat.lt_or_ge (r t - 1) 32 with e | e
                · exact e
                · rw [b_big e] at a2; cases a2
              rw [← tkV_at hc1 (by omega) h32, hz, b_0] at a2
              cases a2
            · refine And.intro (fun e => absurd e (by decide)) (fun _ => ?_)
              refine xq d ok_CS_bit (c_bit E d M2 s) (by omega) ?_
              have hv' : ∀ t, t < 8 → bt (outS set s) t = true → M2.1 19 (δ + 1) t = tkV cl br s c t (M1.1 19 δ t) := fun t ht hb => by rw [hv t ht hb, hF.at t]
              have hw2 : Lw M2 (δ + 1) (outS set s) := by
                intro t ht hbt i hi
                rw [hv' t ht hbt]
                rcases Nat.lt_or_ge i 32 with e | e
                · rw [tkV_at hc1 (by omega) e]
                  rw [outS_at (by omega) (by omega), Bool.and_eq_true] at hbt
                  rw [hw t ht hbt.1 i hi]; rfl
                · exact b_big e
              have hx := ih (δ + 1) (outS set s) M2 ((hF.tr hF2).pk hp) (outS_sm (by omega) hsm) (outS_len hs hbs hlen) (by omega) hw2
              have hx := hx.of_eq (as' := [vP 14 0, vI (nI δ + nI 1), vI (outS set s)]) (by rw [nI_add])
              refine xc (d + 2 + k) ok_Packer_search hx (by omega) ?_
              rintro r M3 ⟨b, rfl, hbx, hF3⟩
              have hF3' : F19 δ M1 M3 := (hF.tr hF2).tr hF3.up
              have heq : (∃ r, Vr (bt (outS set s)) (lfB M2 (δ + 1)) (DD cl br) 8 r) ↔ ∃ r, Vr (bt (outS set s)) (rst (DD cl br) (lfB M1 δ) s (c - 1)) (DD cl br) 8 r :=
                ⟨fun ⟨r, hr⟩ => ⟨r, Vr_cg (fun _ _ => rfl) (fun t ht hS i => rst_tk hc1 (by omega) (hv' t ht hS) i) hr⟩, fun ⟨r, hr⟩ => ⟨r, Vr_cg (fun _ _ => rfl) (fun t ht hS i => (rst_tk hc1 (by omega) (hv' t ht hS) i).symm) hr⟩⟩
              refine brF (fun e => ?_) (fun e => ?_)
              · refine nm_r (nI_add _ _) (nxt' M3 hF3' (fun z => ?_) _)
                have := hbx.mpr (heq.mpr z.2)
                rw [e] at this; cases this
              · refine And.intro (Or.inr rfl) ⟨true, rfl, ⟨fun _ => ?_, fun _ => rfl⟩, hF3'⟩
                exact hstep.mpr ⟨c - 1, by omega, hb, heq.mp (hbx.mp e)⟩
      exact key 1 (by omega) (by omega) M1 (F19.rf δ M1) (fun i hi => absurd hi (by omega)) none
    · refine And.intro (Or.inr rfl) ⟨true, rfl, ⟨fun _ => ⟨fun _ => 0, fun t ht hS => ?_⟩, fun _ => rfl⟩, F19.rf δ M⟩
      rw [q, b_0] at hS; cases hS
theorem c_countRows (hD : Dsy (DD cl br)) : ∀ (k δ : Nat) (set : Int32) (M : Me) (most : Nat), 1 ≤ most → most ≤ 999 → PkD M cl br → isSm set → (stL (bt set) 8 0).length ≤ k → δ + k ≤ 8 → Lw M δ set → Mt E (d + 2 + k) m_Packer_countRows [vP 14 0, vI (nI δ), vI set, vI (nI most)] M (fun r M' => r = some (vI (nI (min most (cnt (DD cl br) (stL (bt set) 8 0) (lfB M δ))))) ∧ F19 δ M M') := by
  intro k
  have empty : ∀ (set : Int32) (F : Nat → Nat → Bool) (most : Nat), 1 ≤ most → set = nI 0 → nI (min most (cnt (DD cl br) (stL (bt set) 8 0) F)) = nI 1 := by
    intro set F most h1 h
    have : stL (bt set) 8 0 = [] := by
      refine List.eq_nil_iff_forall_not_mem.mpr (fun a ha => ?_)
      have := ((stL_mem _ _ _).mp ha).2.2
      rw [h, b_0] at this; cases this
    rw [this, cnt, Nat.min_eq_right h1]
  induction k with
  | zero =>
    intro δ set M most hm1 hm2 hp hsm hlen hδ hw
    refine Mt.go ok_Packer_countRows [] 60 rfl ?_
    refine And.intro (fun q => ?_) (fun q => ?_)
    · obtain ⟨t, ht, hb⟩ := set_ne hsm q
      have := len_pos ht hb
      omega
    · exact And.intro (by rw [empty set _ most hm1 q]) (F19.rf δ M)
  | succ k ih =>
    intro δ set M most hm1 hm2 hp hsm hlen hδ hw
    refine Mt.go ok_Packer_countRows [70] 60 rfl ?_
    refine And.intro (fun q => ?_) (fun q => ?_)
    · have hne := set_ne hsm q
      refine cLt (by omega) (by omega) (fun q => absurd q (by omega)) (fun _ => ?_)
      refine cLt (by omega) (by omega) (fun _ => ?_) (fun q => absurd q (by omega))
      refine xc (d + 1) ok_Packer_tightest (c_tightest E d M δ (by omega) set hw hne) (by omega) ?_
      rintro r M1 ⟨rfl, s, hs, hbs, rfl⟩
      refine And.intro (fun _ => ?_) (fun e => absurd e (s_m1 s hs))
      refine ix δ (show _ < 9 by omega) rfl ?_
      refine ix s (show _ < 8 by omega) rfl ?_
      refine xq d ok_CS_bit (c_bit E d M1 s) (by omega) ?_
      have hpm := stL_pm (S := bt set) (S' := bt (outS set s)) (n := 8) (s := s) hs hbs (fun t ht => outS_at (by omega) (by omega))
      have hcnt : cnt (DD cl br) (stL (bt set) 8 0) (lfB M1 δ) = sumN (fun i => bif lfB M1 δ s i then cnt (DD cl br) (stL (bt (outS set s)) 8 0) (rst (DD cl br) (lfB M1 δ) s i) else 0) 10 := by
        rw [cnt_pm hD hpm, cnt]
      refine And.intro (fun _ => ?_) (fun w => ?_)
      · generalize hf : (fun i => bif lfB M1 δ s i then cnt (DD cl br) (stL (bt (outS set s)) 8 0) (rst (DD cl br) (lfB M1 δ) s i) else 0) = f at hcnt
        have hQ : ∀ A M', A = min most (sumN f 10) → F19 δ M1 M' → (some (vI (nI A)) = some (vI (nI (min most (cnt (DD cl br) (stL (bt set) 8 0) (lfB M1 δ))))) ∧ F19 δ M1 M') := fun A M' e hF => ⟨by rw [e, hcnt], hF⟩
        have key : ∀ c, c ≤ 11 → 1 ≤ c → ∀ N A, F19 δ M1 N → A = min most (sumN f (c - 1)) → ∀ j8, Wp E (d + 2 + (k + 1)) m_Packer_countRows 70 [some (vP 14 0), some (vI (nI δ)), some (vI set), some (vI (nI most)), some (vI (nI s)), some (vI (M1.1 19 δ s)), some (vI (nI A)), some (vI (nI c)), j8] [] N (fun r M' => r = some (vI (nI (min most (cnt (DD cl br) (stL (bt set) 8 0) (lfB M1 δ))))) ∧ F19 δ M1 M') := by
          refine loopUp 11 ?_ ?_
          · intro _ N A hF hA j8
            refine go ok_Packer_countRows [70] 60 ?_
            refine cLt (by omega) (by omega) (fun _ => ?_) (fun q => absurd q (by omega))
            exact hQ A N hA hF
          · intro c hc ihc hc1 N A hF hA j8
            have hAm : A ≤ most := by rw [hA]; exact Nat.min_le_left _ _
            refine go ok_Packer_countRows [70] 60 ?_
            refine cLt (by omega) (by omega) (fun q => absurd q (by omega)) (fun _ => ?_)
            refine cLe (by omega) (by omega) (fun z => ?_) (fun z => ?_)
            · refine hQ A N ?_ hF
              have h1 := sumN_le (f := f) (m := c - 1) (10 - (c - 1))
              rw [show c - 1 + (10 - (c - 1)) = 10 by omega] at h1
              omega
            · have hA2 : A = sumN f (c - 1) := by omega
              have hsum : sumN f c = A + f (c - 1) := by
                rw [show c = (c - 1) + 1 by omega, sumN, ← hA2]
                rfl
              refine xq d ok_CS_channelBit (c_channelBit E d N c hc1) (by omega) ?_
              have nxt' : ∀ N, F19 δ M1 N → f (c - 1) = 0 → ∀ j8, Wp E (d + 2 + (k + 1)) m_Packer_countRows 70 [some (vP 14 0), some (vI (nI δ)), some (vI set), some (vI (nI most)), some (vI (nI s)), some (vI (M1.1 19 δ s)), some (vI (nI A)), some (vI (nI (c + 1))), j8] [] N (fun r M' => r = some (vI (nI (min most (cnt (DD cl br) (stL (bt set) 8 0) (lfB M1 δ))))) ∧ F19 δ M1 M') := by
                intro N hF h0 j8
                refine ihc (by omega) N A hF ?_ j8
                rw [Nat.add_sub_cancel, hsum, h0]
                omega
              refine And.intro (fun w => ?_) (fun w => ?_)
              · refine nm_r (nI_add _ _) (nxt' N hF ?_ _)
                have := (and_b1 (show c - 1 < 32 by omega)).mp w
                rw [← hf]
                show (bif bt (M1.1 19 δ s) (c - 1) then _ else 0) = 0
                rw [this]; rfl
              · have hb : bt (M1.1 19 δ s) (c - 1) = true := by
                  cases hz : bt (M1.1 19 δ s) (c - 1) with
                  | true => rfl
                  | false => exact absurd ((and_b1 (show c - 1 < 32 by omega)).mpr hz) w
                have hfc : f (c - 1) = cnt (DD cl br) (stL (bt (outS set s)) 8 0) (rst (DD cl br) (lfB M1 δ) s (c - 1)) := by
                  rw [← hf]
                  show (bif bt (M1.1 19 δ s) (c - 1) then _ else 0) = _
                  rw [hb]; rfl
                have hone := ch_one (show c - 1 < 32 by omega) hb
                have hx := c_take E d N (hF.pk hp) δ (by omega) set s c hs hc1 (by omega)
                rw [← hone] at hx
                refine xc (d + 1) ok_Packer_take hx (by omega) ?_
                rintro r M2 ⟨hF2, h2⟩
                rcases h2 with ⟨rfl, t, ht, hbt, hz⟩ | ⟨rfl, hv⟩
                · refine And.intro (fun _ => ?_) (fun e => absurd rfl e)
                  refine nm_r (nI_add _ _) (nxt' M2 (hF.tr hF2) ?_ _)
                  rw [hfc]
                  refine cnt_z _ _ t ((stL_mem _ _ _).mpr ⟨Nat.zero_le _, by omega, hbt⟩) (fun i hi => ?_)
                  unfold rst lfB
                  rw [show c - 1 + 1 = c by omega, ← tkV_at hc1 (by omega) (show i < 32 by omega)]
                  rw [hF.at t] at hz
                  rw [hz, b_0]
                · refine And.intro (fun e => absurd e (by decide)) (fun _ => ?_)
                  refine xq d ok_CS_bit (c_bit E d M2 s) (by omega) ?_
                  have hv' : ∀ t, t < 8 → bt (outS set s) t = true → M2.1 19 (δ + 1) t = tkV cl br s c t (M1.1 19 δ t) := fun t ht hb => by rw [hv t ht hb, hF.at t]
                  have hw2 : Lw M2 (δ + 1) (outS set s) := by
                    intro t ht hbt i hi
                    rw [hv' t ht hbt]
                    rcases Nat.lt_or_ge i 32 with e | e
                    · rw [tkV_at hc1 (by omega) e]
                      rw [outS_at (by omega) (by omega), Bool.and_eq_true] at hbt
                      rw [hw t ht hbt.1 i hi]; rfl
                    · exact b_big e
                  have hx := ih (δ + 1) (outS set s) M2 (most - A) (by omega) (by omega) ((hF.tr hF2).pk hp) (outS_sm (by omega) hsm) (outS_len hs hbs hlen) (by omega) hw2
                  have hx := hx.of_eq (as' := [vP 14 0, vI (nI δ + nI 1), vI (outS set s), vI (nI most - nI A)]) (by rw [nI_add, pk_sub hAm])
                  refine xc (d + 2 + k) ok_Packer_countRows hx (by omega) ?_
                  rintro r M3 ⟨rfl, hF3⟩
                  have hF3' : F19 δ M1 M3 := (hF.tr hF2).tr hF3.up
                  have heq : cnt (DD cl br) (stL (bt (outS set s)) 8 0) (lfB M2 (δ + 1)) = f (c - 1) := by
                    rw [hfc]
                    refine cnt_cg _ _ _ (fun t ht i _ => ?_)
                    obtain ⟨-, h3, h4⟩ := (stL_mem _ _ _).mp ht
                    exact rst_tk hc1 (by omega) (hv' t (by omega) h4) i
                  rw [heq]
                  refine nm_r (nI_add _ _) ?_
                  have := ihc (by omega) M3 (A + min (most - A) (f (c - 1))) hF3' (by
                    rw [Nat.add_sub_cancel, hsum]
                    omega) (some (vI (M1.1 19 δ s &&& b1 (c - 1))))
                  rw [← nI_add] at this
                  exact this
        refine key 1 (by omega) (by omega) M1 0 (F19.rf δ M1) ?_ none
        show 0 = min most 0
        omega
      · obtain ⟨kk, hkk, ek⟩ := ten_of (hw s hs hbs)
        have hx := c_bitCount E d M1 kk hkk
        rw [← ek] at hx
        refine xq d ok_Integer_bitCount hx (by omega) ?_
        have hnil : stL (bt (outS set s)) 8 0 = [] := by
          refine List.eq_nil_iff_forall_not_mem.mpr (fun a ha => ?_)
          have h3 := ((stL_mem _ _ _).mp ha)
          have h4 := h3.2.2
          rw [outS_at (by omega) (by omega), w, b1_at (by omega) (by omega)] at h4
          cases hd : decide (a = s) <;> rw [hd] at h4 <;> cases h4
        have hone : cnt (DD cl br) (stL (bt set) 8 0) (lfB M1 δ) = sumN (fun i => bif bt (nI kk) i then 1 else 0) 10 := by
          rw [hcnt, hnil]
          refine sumN_cg (fun i _ => ?_)
          show (bif bt (M1.1 19 δ s) i then _ else 0) = _
          rw [ek]; rfl
        have hle := sum10 (bt (nI kk)) 10
        refine And.intro ?_ (F19.rf δ M1)
        rw [hone, ek, bcS kk hkk]
        by_cases e : most < sumN (fun i => bif bt (nI kk) i then 1 else 0) 10
        · rw [if_pos ((nI_ltI (by omega) (by omega)).mpr e), Nat.min_eq_left (by omega)]
        · rw [if_neg (fun z => e ((nI_ltI (by omega) (by omega)).mp z)), Nat.min_eq_right (by omega)]
    · exact And.intro (by rw [empty set _ most hm1 q]) (F19.rf δ M)
end K2
