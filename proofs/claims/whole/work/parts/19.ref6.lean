/-! the reference: images; border, near, heard -/
def kp (M : Me) (i : Nat) : Bool := bt (M.1 69 0 i) 0
def RK (M : Me) : Prop := ∀ i, i < 2 → M.1 69 0 i = bI (kp M i)
def tKeep (M : Me) (x : Int32) : Nat := bif hT M && in3 x 1 then 0 else 1
def tBack (M : Me) (x : Int32) : Nat := bif (hT M && in3 x 1) && kp M (tN x) then 0 else 1
def nKeep (M : Me) (x : Int32) : Me := sI (setR (M0 M) 68 0 (26 * tN x) 26 (M.1 65 0)) 69 0 (tN x) (nI 1)
def nBack (M : Me) (x : Int32) : Me := sI (setR (M0 M) 65 0 0 26 (fun k => M.1 68 0 (26 * tN x + k))) 60 0 29 (nI 0)
def finG (N : Me) (t : Nat) : Me := sI (sI N 60 0 1 (nI t)) 60 0 2 (-(nI 1))
abbrev RG (M : Me) (t : Nat) (N : Me) : Option AV → Me → Prop := fun r M' => (t ≠ 0 ∧ r = some (vI (nI 0)) ∧ M' = finG (M0 M) t) ∨ (t = 0 ∧ r = some (vI (nI 1)) ∧ M' = finG N 0)
section R7
variable (E : EV) (d : Nat) (M : Me)
theorem r_granted (t : Nat) (ht : t < 10) : Mt E d m_Mo_granted [vP 60 0, vI (nI t)] M (fun r M' => r = some (vI (bI (decide (t = 0)))) ∧ M' = finG M t) := by
  refine Mt.go ok_Mo_granted [] 30 rfl ?_
  refine cNe (by omega) (by omega) (fun h => ?_) (fun h => ?_)
  · refine And.intro (Or.inl rfl) (And.intro ?_ rfl)
    rw [decide_eq_false h]; rfl
  · refine And.intro (Or.inr rfl) (And.intro ?_ rfl)
    rw [decide_eq_true h]; rfl
theorem x_gr {K : Option AV → Me → Prop} {m : Me} (t : Nat) (ht : t < 10) (h0 : 0 < d) (hk : K (some (vI (bI (decide (t = 0))))) (finG m t)) : codeW m_Mo_granted ∈ TW ∧ CallK E d m_Mo_granted [vP 60 0, vI (nI t)] m K :=
  xc 0 ok_Mo_granted (r_granted E 0 m t ht) h0 (fun r M' h => by rw [h.1, h.2]; exact hk)
theorem r_keep (hX : RX M) (x : Int32) : Mt E (d + 1) m_Mo_keep [vP 60 0, vI x] M (RG M (tKeep M x) (nKeep M x)) := by
  refine Mt.go ok_Mo_keep [29] 60 rfl ?_
  refine qF hX.2 (fun h => ?_) (fun h => ?_)
  · refine x_gr E _ 1 (by omega) (by omega) ?_
    refine And.intro (Or.inl rfl) (Or.inl ?_)
    have e : tKeep M x = 1 := by unfold tKeep; rw [h]; rfl
    rw [e]; exact ⟨by omega, rfl, rfl⟩
  · refine xq d ok_Mo_in (r_in E d _ _ _ _) (by omega) ?_
    refine brN (fun h2 => ?_) (fun h2 => ?_)
    · have h2 : in3 x 1 = true := h2
      obtain ⟨i, hi, rfl⟩ := in3_at (by omega) h2
      have e1 : tN (nI i) = i := tN_nI (by omega)
      have ht : tKeep M (nI i) = 0 := by unfold tKeep; rw [h, h2]; rfl
      have key : ∀ k, k ≤ 26 → ∀ N, N = setR (M0 M) 68 0 (26 * i) k (M.1 65 0) → Wp E (d + 1) m_Mo_keep 29 [some (vP 60 0), some (vI (nI i)), some (vI (nI k))] [] N (RG M (tKeep M (nI i)) (nKeep M (nI i))) := by
        refine loopUp 26 ?_ ?_
        · rintro N rfl
          refine go ok_Mo_keep [29] 60 ?_
          refine cLe (by omega) (by omega) (fun _ => ?_) (fun c => absurd c (by omega))
          refine ix i (show _ < 2 by omega) rfl (And.intro (Or.inr rfl) ?_)
          refine x_gr E _ 0 (by omega) (by omega) ?_
          refine And.intro (Or.inr rfl) (Or.inr ⟨ht, rfl, ?_⟩)
          unfold nKeep; rw [e1]
        · rintro k hlt ih N rfl
          refine go ok_Mo_keep [29] 60 ?_
          refine cLe (by omega) (by omega) (fun h => absurd h (by omega)) (fun _ => ?_)
          refine ix k (show _ < 26 by omega) rfl ?_
          refine ix (26 * i + k) (show _ < 52 by omega) (by rw [nI_mul, nI_s8]) ?_
          refine nm_r (nI_add _ _) (ih _ ?_)
          exact setR_step (M0 M) 68 0 (26 * i) k (M.1 65 0)
      exact key 0 (by omega) _ (setR_0 _ _ _ _ _).symm
    · have h2 : in3 x 1 = false := h2
      refine x_gr E _ 1 (by omega) (by omega) ?_
      refine And.intro (Or.inl rfl) (Or.inl ?_)
      have e : tKeep M x = 1 := by unfold tKeep; rw [h, h2]; rfl
      rw [e]; exact ⟨by omega, rfl, rfl⟩
theorem r_back (hX : RX M) (hK : RK M) (x : Int32) : Mt E (d + 1) m_Mo_back [vP 60 0, vI x] M (RG M (tBack M x) (nBack M x)) := by
  refine Mt.go ok_Mo_back [38] 60 rfl ?_
  refine qF hX.2 (fun h => ?_) (fun h => ?_)
  · refine x_gr E _ 1 (by omega) (by omega) ?_
    refine And.intro (Or.inl rfl) (Or.inl ?_)
    have e : tBack M x = 1 := by unfold tBack; rw [h]; rfl
    rw [e]; exact ⟨by omega, rfl, rfl⟩
  · refine xq d ok_Mo_in (r_in E d _ _ _ _) (by omega) ?_
    refine brF (fun h2 => ?_) (fun h2 => ?_)
    · have h2 : in3 x 1 = false := h2
      refine x_gr E _ 1 (by omega) (by omega) ?_
      refine And.intro (Or.inl rfl) (Or.inl ?_)
      have e : tBack M x = 1 := by unfold tBack; rw [h, h2]; rfl
      rw [e]; exact ⟨by omega, rfl, rfl⟩
    · have h2 : in3 x 1 = true := h2
      obtain ⟨i, hi, rfl⟩ := in3_at (by omega) h2
      have e1 : tN (nI i) = i := tN_nI (by omega)
      refine ix i (show _ < 2 by omega) rfl ?_
      refine qN (hK i (by omega)) (fun h3 => ?_) (fun h3 => ?_)
      · have ht : tBack M (nI i) = 0 := by unfold tBack; rw [h, h2, e1, h3]; rfl
        have key : ∀ k, k ≤ 26 → ∀ N, N = setR (M0 M) 65 0 0 k (fun k => M.1 68 0 (26 * i + k)) → Wp E (d + 1) m_Mo_back 38 [some (vP 60 0), some (vI (nI i)), some (vI (nI k))] [] N (RG M (tBack M (nI i)) (nBack M (nI i))) := by
          refine loopUp 26 ?_ ?_
          · rintro N rfl
            refine go ok_Mo_back [38] 60 ?_
            refine cLe (by omega) (by omega) (fun _ => ?_) (fun c => absurd c (by omega))
            refine x_gr E _ 0 (by omega) (by omega) ?_
            refine And.intro (Or.inr rfl) (Or.inr ⟨ht, rfl, ?_⟩)
            unfold nBack; rw [e1]
          · rintro k hlt ih N rfl
            refine go ok_Mo_back [38] 60 ?_
            refine cLe (by omega) (by omega) (fun h => absurd h (by omega)) (fun _ => ?_)
            refine ix (26 * i + k) (show _ < 52 by omega) (by rw [nI_mul, nI_s8]) ?_
            refine ix k (show _ < 26 by omega) rfl ?_
            refine nm_r (nI_add _ _) (ih _ ?_)
            rw [← setR_step, Nat.zero_add]; rfl
        exact key 0 (by omega) _ (setR_0 _ _ _ _ _).symm
      · refine x_gr E _ 1 (by omega) (by omega) ?_
        refine And.intro (Or.inl rfl) (Or.inl ?_)
        have e : tBack M (nI i) = 1 := by unfold tBack; rw [h, h2, e1, h3]; rfl
        rw [e]; exact ⟨by omega, rfl, rfl⟩
theorem r_border (hX : RX M) (x y : Int32) : Mt E (d + 2) m_Mo_border [vP 60 0, vI x, vI y] M (RQ M (qBorder M x y)) := by
  obtain ⟨hR, hx⟩ := id hX
  obtain ⟨⟨hc, hc'⟩, ⟨hn, hn'⟩, ⟨hb, hb'⟩, ho⟩ := id hR
  refine Mt.go ok_Mo_border [69] 60 rfl ?_
  refine qF hX.2 (fun h => ?_) (fun h => ?_)
  · refine x_ref E _ (nI 1) (by omega) ?_
    have e : qBorder M x y = no 1 := by unfold qBorder; rw [if_pos (by rw [h]; rfl)]
    rw [e]; exact And.intro rfl rfl
  · refine xq d ok_Mo_in (r_in E d _ _ _ _) (by omega) ?_
    have hb0 : (M0 M).1 60 0 19 = nI (bN M) := hb
    rw [hb0]
    refine brF (fun h1 => ?_) (fun h1 => ?_)
    · refine x_ref E _ (nI 1) (by omega) ?_
      have e : qBorder M x y = no 1 := by unfold qBorder; rw [if_pos (by rw [h, h1]; rfl)]
      rw [e]; exact And.intro rfl rfl
    · have e1 : (hT M && (decide (nI 0 ≤ x) && decide (x ≤ nI (bN M) - nI 1))) = true := by rw [h, h1]; rfl
      have hbx : ∃ b, b < bN M ∧ x = nI b := by
        simp only [Bool.and_eq_true, decide_eq_true_eq] at h1
        obtain ⟨k, hk, rfl⟩ := nneg h1.1
        by_cases h0 : bN M = 0
        · have h2 := h1.2
          rw [h0] at h2
          have h3 := Int32.le_iff_toInt_le.mp h2
          rw [nI_toInt hk] at h3
          have e : (nI 0 - nI 1).toInt = -1 := by decide
          rw [e] at h3
          omega
        · have h2 := h1.2
          rw [nI_m1 (by omega)] at h2
          have := (nI_leI hk (by omega)).mp h2
          exact ⟨k, by omega, rfl⟩
      obtain ⟨b, hbb, rfl⟩ := hbx
      have e2 : tN (nI b) = b := tN_nI (by omega)
      refine xq d ok_Mo_in (r_in E d _ _ _ _) (by omega) ?_
      refine brN (fun h2 => ?_) (fun h2 => ?_)
      · have h2 : in3 y 4 = true := h2
        obtain ⟨k, hk, rfl⟩ := in3_at (by omega) h2
        have e3 : tN (nI k) = k := tN_nI (by omega)
        have e0 : qBorder M (nI b) (nI k) = if nI k < nI 3 then ye (M.1 62 0 (3 * (8 + b) + k)) else if nI k = nI 3 then ye (M.1 63 0 b) else ye (S32 (fun s => decide (s < sN M) && aCnt M b s)) := by
          unfold qBorder; rw [if_neg (by rw [e1]; decide), if_neg (by rw [h2]; decide), e2, e3]
        generalize hf : (fun s => decide (s < sN M) && aCnt M b s) = f at e0
        refine cLe (by omega) (by omega) (fun h3 => ?_) (fun h3 => ?_)
        · have key : ∀ t, t ≤ sN M → ∀ z, z = mkS f t → Wp E (d + 2) m_Mo_border 69 [some (vP 60 0), some (vI (nI b)), some (vI (nI k)), some (vI z), some (vI (nI t))] [] (M0 M) (RQ M (qBorder M (nI b) (nI k))) := by
            refine loopUp (sN M) ?_ ?_
            · intro z hz
              refine go ok_Mo_border [69] 60 ?_
              refine qLe hn rfl (by omega) (by omega) (fun _ => ?_) (fun c => absurd c (by omega))
              refine cNe (by omega) (by omega) (fun h4 => ?_) (fun h4 => ?_)
              · refine x_good E _ _ (by omega) ?_
                rw [e0, if_neg (fun q => by have := (nI_ltI (by omega) (by omega)).mp q; omega), if_neg (nI_dne (by omega) (by omega) h4), hz, mkS_full (by omega) (fun i hi => by rw [← hf] at hi; simp only [Bool.and_eq_true, decide_eq_true_eq] at hi; exact hi.1)]
                exact And.intro rfl rfl
              · refine ix b (show _ < 8 by omega) rfl ?_
                refine x_good E _ _ (by omega) ?_
                rw [e0, if_neg (fun q => by have := (nI_ltI (by omega) (by omega)).mp q; omega), if_pos (by rw [h4])]
                exact And.intro rfl rfl
            · intro t hlt ih z hz
              have hft : f t = aCnt M b t := by rw [← hf]; simp only [decide_eq_true hlt, Bool.true_and]
              refine go ok_Mo_border [69] 60 ?_
              refine qLe hn rfl (by omega) (by omega) (fun h => absurd h (by omega)) (fun _ => ?_)
              refine xq (d + 1) ok_Mo_counts (r_counts E d _ b t (by omega) (by omega)) (by omega) ?_
              refine brF (fun h5 => ?_) (fun h5 => ?_)
              · have h5 : aCnt M b t = false := h5
                refine nm_r (nI_add _ _) (ih _ ?_)
                rw [hz, or0, mkS, hft, h5]; rfl
              · have h5 : aCnt M b t = true := h5
                refine nm_r (nI_add _ _) (ih _ ?_)
                rw [hz, mkS, hft, h5]; rfl
          exact key 0 (Nat.zero_le _) _ rfl
        · refine ix (3 * (8 + b) + k) (show _ < 72 by omega) (by rw [nI_s8, nI_mul, nI_s8]) ?_
          refine x_good E _ _ (by omega) ?_
          rw [e0, if_pos ((nI_ltI (by omega) (by omega)).mpr h3)]
          exact And.intro rfl rfl
      · have h2 : in3 y 4 = false := h2
        refine x_ref E _ (nI 1) (by omega) ?_
        have e : qBorder M (nI b) y = no 1 := by unfold qBorder; rw [if_neg (by rw [e1]; decide), if_pos h2]
        rw [e]; exact And.intro rfl rfl
theorem r_near (hX : RX M) (x y : Int32) : Mt E (d + 4) m_Mo_near [vP 60 0, vI x, vI y] M (RQ M (qNear M x y)) := by
  obtain ⟨hR, hx⟩ := id hX
  obtain ⟨⟨hc, hc'⟩, ⟨hn, hn'⟩, ⟨hb, hb'⟩, ho⟩ := id hR
  have hX0 : RX (M0 M) := hX
  refine Mt.go ok_Mo_near [68] 60 rfl ?_
  refine xq (d + 1) ok_Mo_isStation (r_isStation E d _ hX0 x) (by omega) ?_
  refine brF (fun h1 => ?_) (fun h1 => ?_)
  · have h1 : aSt M x = false := h1
    refine x_ref E _ (nI 1) (by omega) ?_
    have e : qNear M x y = no 1 := by unfold qNear; rw [if_pos h1]
    rw [e]; exact And.intro rfl rfl
  · have h1 : aSt M x = true := h1
    obtain ⟨s, hs, rfl⟩ := aSt_at hR h1
    obtain ⟨ho1, ho2, ho3⟩ := ho s hs
    have e1 : tN (nI s) = s := tN_nI (by omega)
    refine xq d ok_Mo_in (r_in E d _ _ _ _) (by omega) ?_
    refine brN (fun h2 => ?_) (fun h2 => ?_)
    · have h2 : in3 y 2 = true := h2
      obtain ⟨k, hk, rfl⟩ := in3_at (by omega) h2
      have e0 : qNear M (nI s) (nI k) = if nI k = nI 2 then ye (bif aOn M s then S32 (aDsb M s (oN M s)) else nI 0) else if nI k = nI 0 then ye (S32 (fun t => decide (t < sN M) && (!decide (t = s) && aClash M s t))) else ye (S32 (fun t => decide (t < sN M) && (!decide (t = s) && aBrush M s t))) := by
        unfold qNear; rw [if_neg (by rw [h1]; decide), if_neg (by rw [h2]; decide), e1]
      refine cNe (by omega) (by omega) (fun h3 => ?_) (fun h3 => ?_)
      · generalize hg : (bif decide (k = 0) then aClash M s else aBrush M s) = g
        have e4 : qNear M (nI s) (nI k) = ye (S32 (fun t => decide (t < sN M) && (!decide (t = s) && g t))) := by
          rw [e0, if_neg (nI_dne (by omega) (by omega) h3), ← hg]
          by_cases h4 : k = 0
          · rw [if_pos (by rw [h4]), decide_eq_true h4]; rfl
          · rw [if_neg (nI_dne (by omega) (by omega) h4), decide_eq_false h4]; rfl
        rw [e4]
        generalize hf : (fun t => decide (t < sN M) && (!decide (t = s) && g t)) = f
        have key : ∀ t, t ≤ sN M → ∀ z, z = mkS f t → Wp E (d + 4) m_Mo_near 68 [some (vP 60 0), some (vI (nI s)), some (vI (nI k)), some (vI z), some (vI (nI t))] [] (M0 M) (RQ M (ye (S32 f))) := by
          refine loopUp (sN M) ?_ ?_
          · intro z hz
            refine go ok_Mo_near [68] 60 ?_
            refine qLe hn rfl (by omega) (by omega) (fun _ => ?_) (fun c => absurd c (by omega))
            refine x_good E _ _ (by omega) ?_
            rw [hz, mkS_full (by omega) (fun i hi => by rw [← hf] at hi; simp only [Bool.and_eq_true, decide_eq_true_eq] at hi; exact hi.1)]
            exact And.intro rfl rfl
          · intro t hlt ih z hz
            have hft : f t = (!decide (t = s) && g t) := by rw [← hf]; simp only [decide_eq_true hlt, Bool.true_and]
            refine go ok_Mo_near [68] 60 ?_
            refine qLe hn rfl (by omega) (by omega) (fun h => absurd h (by omega)) (fun _ => ?_)
            refine cEq (by omega) (by omega) (fun h5 => ?_) (fun h5 => ?_)
            · refine nm_r (nI_add _ _) (ih _ ?_)
              rw [hz, mkS, hft, decide_eq_true h5]; rfl
            · rw [decide_eq_false h5] at hft
              refine cNe (by omega) (by omega) (fun h6 => ?_) (fun h6 => ?_)
              · have hgt : g t = aBrush M s t := by rw [← hg, decide_eq_false h6]; rfl
                refine xq (d + 1) ok_Mo_doBrush (r_doBrush E d _ s t (by omega) (by omega)) (by omega) ?_
                refine brF (fun h7 => ?_) (fun h7 => ?_)
                · have h7 : aBrush M s t = false := h7
                  refine nm_r (nI_add _ _) (ih _ ?_)
                  rw [hz, mkS, hft, hgt, h7]; rfl
                · have h7 : aBrush M s t = true := h7
                  refine nm_r (nI_add _ _) (ih _ ?_)
                  rw [hz, mkS, hft, hgt, h7]; rfl
              · have hgt : g t = aClash M s t := by rw [← hg, decide_eq_true h6]; rfl
                refine xq (d + 1) ok_Mo_doClash (r_doClash E d _ s t (by omega) (by omega)) (by omega) ?_
                refine brF (fun h7 => ?_) (fun h7 => ?_)
                · have h7 : aClash M s t = false := h7
                  refine nm_r (nI_add _ _) (ih _ ?_)
                  rw [hz, mkS, hft, hgt, h7]; rfl
                · have h7 : aClash M s t = true := h7
                  refine nm_r (nI_add _ _) (ih _ ?_)
                  rw [hz, mkS, hft, hgt, h7]; rfl
        exact key 0 (Nat.zero_le _) _ rfl
      · subst h3
        refine xq (d + 1) ok_Mo_isOn (r_isOn E d _ s (by omega)) (by omega) ?_
        refine brF (fun h3 => ?_) (fun h3 => ?_)
        · have h3 : aOn M s = false := h3
          refine x_good E _ _ (by omega) ?_
          rw [e0, if_pos rfl, h3]; exact And.intro rfl rfl
        · have h3 : aOn M s = true := h3
          refine ix s (show _ < 26 by omega) (by rw [nI_s8, Nat.zero_add]) ?_
          have ho4 : (M0 M).1 65 0 s = nI (oN M s) := ho1
          refine xq (d + 3) ok_Mo_disturbers (by rw [ho4]; exact r_disturbers E d _ hX0.1 s (oN M s) (by omega) (by omega)) (by omega) ?_
          refine x_good E _ _ (by omega) ?_
          rw [e0, if_pos rfl, h3]; exact And.intro rfl rfl
    · have h2 : in3 y 2 = false := h2
      refine x_ref E _ (nI 1) (by omega) ?_
      have e : qNear M (nI s) y = no 1 := by unfold qNear; rw [if_neg (by rw [h1]; decide), if_pos h2]
      rw [e]; exact And.intro rfl rfl
end R7
