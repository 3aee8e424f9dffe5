/-! the reference: heard, islands -/
/-- the least set with s that keeps those that clash -/
def Rh (S : Nat → Bool) (C : Nat → Nat → Bool) (n s i : Nat) : Prop := ∀ P : Nat → Prop, P s → (∀ a b, P a → a < n → b < n → S b = true → C a b = true → P b) → P i
theorem Rh_base {S : Nat → Bool} {C : Nat → Nat → Bool} {n s : Nat} : Rh S C n s s := fun _ h _ => h
theorem Rh_step {S : Nat → Bool} {C : Nat → Nat → Bool} {n s a b : Nat} (h : Rh S C n s a) (ha : a < n) (hb : b < n) (hS : S b = true) (hC : C a b = true) : Rh S C n s b := fun P h0 h1 => h1 a b (h P h0 h1) ha hb hS hC
noncomputable def isl (S : Nat → Bool) (C : Nat → Nat → Bool) (n s : Nat) : Int32 := S32 (fun i => @decide (Rh S C n s i) (Classical.propDecidable _))
theorem isl_eq {S : Nat → Bool} {C : Nat → Nat → Bool} {n s : Nat} {x : Int32} (h : ∀ i, i < 32 → (bt x i = true ↔ Rh S C n s i)) : x = isl S C n s := by
  unfold isl
  refine S32_eq fun i hi => ?_
  by_cases q : Rh S C n s i
  · rw [(h i hi).mpr q]
    exact (@decide_eq_true _ (Classical.propDecidable _) q).symm
  · rw [show bt x i = false by
      cases e : bt x i with
      | false => rfl
      | true => exact absurd ((h i hi).mp e) q]
    exact (@decide_eq_false _ (Classical.propDecidable _) q).symm
/-- how many below n are not in a set -/
def mss (x : Int32) : Nat → Nat
  | 0 => 0
  | n + 1 => mss x n + bif bt x n then 0 else 1
theorem mss_le (x : Int32) : ∀ n, mss x n ≤ n
  | 0 => Nat.le_refl 0
  | n + 1 => by
    have := mss_le x n
    rw [mss]
    cases bt x n <;> simp only [cond_true, cond_false] <;> omega
theorem mss_up {x : Int32} {b : Nat} (hb : bt x b = false) (h32 : b < 32) : ∀ n, n ≤ 32 → mss (x ||| b1 b) n + (if b < n then 1 else 0) = mss x n
  | 0, _ => rfl
  | n + 1, hn => by
    have ih := mss_up (x := x) (b := b) hb h32 n (by omega)
    rw [mss, mss, b_or]
    by_cases e : n = b
    · subst e
      rw [b1_at (by omega) (by omega), hb, if_pos (by omega)]
      rw [if_neg (by omega)] at ih
      simp only [decide_true, Bool.false_or, cond_true, cond_false]
      omega
    · rw [b1_at h32 (by omega), decide_eq_false e, Bool.or_false]
      have : (b < n + 1) = (b < n) := propext (by omega)
      simp only [this]
      omega
def isF (air : Int32) (il : Nat → Int32) : Nat → Int32 × Nat × Int32
  | 0 => (air, 0, nI 0)
  | t + 1 => bif bt (isF air il t).1 t then ((isF air il t).1 &&& (il t ^^^ -(nI 1)), (isF air il t).2.1 + 1, bif decide (aBits (isF air il t).2.2 16 < aBits (il t) 16) then il t else (isF air il t).2.2) else isF air il t
noncomputable def aIsl (M : Me) : Int32 × Nat × Int32 := isF (M.1 65 0 24) (fun s => isl (aS M) (aClash M) (sN M) s) (sN M)
noncomputable def qIslands (M : Me) (y : Int32) : AT := if (hT M && in3 y 2) = false then no 1 else if y = nI 0 then ye (nI (aIsl M).2.1) else if y = nI 1 then ye (aBits (aIsl M).2.2 16) else ye (aIsl M).2.2
section R19
variable (E : EV) (d : Nat) (M : Me)
theorem r_island (hR : RW M) (s : Nat) (hs : s < sN M) : Mt E (d + 2) m_Mo_island [vP 60 0, vI (nI s)] M (RP (vI (isl (aS M) (aClash M) (sN M) s)) M) := by
  obtain ⟨⟨hc, hc'⟩, ⟨hn, hn'⟩, ⟨hb, hb'⟩, ho⟩ := id hR
  generalize hS : aS M = S
  generalize hC : aClash M = C
  generalize hN : sN M = n at *
  generalize hQ : (RP (vI (isl S C n s)) M : Option AV → Me → Prop) = Q
  refine Mt.go ok_Mo_island [6] 60 rfl ?_
  have outer : ∀ fuel x, mss x n < fuel → bt x s = true → (∀ i, i < 32 → bt x i = true → Rh S C n s i) → ∀ j4 j5, Wp E (d + 2) m_Mo_island 6 [some (vP 60 0), some (vI (nI s)), some (vI x), some (vI (nI 1)), j4, j5] [] M Q := by
    intro fuel
    induction fuel with
    | zero => intro x h; exact absurd h (by omega)
    | succ fuel ihf =>
      intro x0 hm hs0 hso j4 j5
      -- behind a round
      have fin : ∀ x b, bt x s = true → (∀ i, i < 32 → bt x i = true → Rh S C n s i) → (b = true → mss x n < mss x0 n) → (b = false → ∀ a', a' < n → ∀ b', b' < n → bt x a' = true → bt x b' = false → S b' = true → C a' b' = false) → ∀ j4 j5, Wp E (d + 2) m_Mo_island 6 [some (vP 60 0), some (vI (nI s)), some (vI x), some (vI (bI b)), j4, j5] [] M Q := by
        intro x b h1 h2 h3 h4 j4 j5
        cases b with
        | true => exact ihf x (by have := h3 rfl; omega) h1 h2 j4 j5
        | false =>
          refine go ok_Mo_island [] 60 ?_
          refine And.intro (fun _ => ?_) (fun q => absurd rfl q)
          rw [← hQ]
          refine And.intro ?_ rfl
          rw [isl_eq (x := x) (fun i hi => ⟨h2 i hi, fun hr => ?_⟩)]
          refine hr (fun i => bt x i = true) h1 (fun a b ih r2 r3 r4 r5 => ?_)
          cases hbt : bt x b with
          | true => rfl
          | false =>
            have := h4 rfl a r2 b r3 ih hbt r4
            rw [r5] at this; cases this
      -- one round
      have rows : ∀ a, a ≤ n → ∀ x b, bt x s = true → (∀ i, i < 32 → bt x i = true → Rh S C n s i) → (b = true → mss x n < mss x0 n) → (b = false → x = x0 ∧ ∀ a', a' < a → ∀ b', b' < n → bt x a' = true → bt x b' = false → S b' = true → C a' b' = false) → ∀ j5, Wp E (d + 2) m_Mo_island 15 [some (vP 60 0), some (vI (nI s)), some (vI x), some (vI (bI b)), some (vI (nI a)), j5] [] M Q := by
        refine loopUp n ?_ ?_
        · intro x b h1 h2 h3 h4 j5
          refine go ok_Mo_island [6] 60 ?_
          refine qLe hn rfl (by omega) (by omega) (fun _ => ?_) (fun q => absurd q (by omega))
          exact fin x b h1 h2 h3 (fun hb2 => (h4 hb2).2) _ _
        · intro a hlt iha x b h1 h2 h3 h4 j5
          have cols : ∀ c, c ≤ n → ∀ x b, bt x s = true → (∀ i, i < 32 → bt x i = true → Rh S C n s i) → (b = true → mss x n < mss x0 n) → (b = false → x = x0 ∧ (∀ a', a' < a → ∀ b', b' < n → bt x a' = true → bt x b' = false → S b' = true → C a' b' = false) ∧ ∀ b', b' < c → bt x a = true → bt x b' = false → S b' = true → C a b' = false) → Wp E (d + 2) m_Mo_island 27 [some (vP 60 0), some (vI (nI s)), some (vI x), some (vI (bI b)), some (vI (nI a)), some (vI (nI c))] [] M Q := by
            refine loopUp n ?_ ?_
            · intro x b h1 h2 h3 h4
              refine go ok_Mo_island [15] 60 ?_
              refine qLe hn rfl (by omega) (by omega) (fun _ => ?_) (fun q => absurd q (by omega))
              refine nm_r (nI_add _ _) (iha x b h1 h2 h3 (fun hb2 => ?_) _)
              obtain ⟨g1, g2, g3⟩ := h4 hb2
              refine ⟨g1, fun a' ha' => ?_⟩
              by_cases e : a' = a
              · subst e; exact g3
              · exact g2 a' (by omega)
            · intro c hlc ihc x b h1 h2 h3 h4
              refine go ok_Mo_island [27] 60 ?_
              refine qLe hn rfl (by omega) (by omega) (fun q => absurd q (by omega)) (fun _ => ?_)
              -- nothing comes to it
              have same : (bt x a = true → bt x c = false → S c = true → C a c = false) → Wp E (d + 2) m_Mo_island 27 [some (vP 60 0), some (vI (nI s)), some (vI x), some (vI (bI b)), some (vI (nI a)), some (vI (nI (c + 1)))] [] M Q := by
                intro hq
                refine ihc x b h1 h2 h3 (fun hb2 => ?_)
                obtain ⟨g1, g2, g3⟩ := h4 hb2
                refine ⟨g1, g2, fun b' hb' => ?_⟩
                by_cases e : b' = c
                · subst e; exact hq
                · exact g3 b' (by omega)
              refine xq d ok_Mo_has (r_has E d _ _ a (by omega)) (by omega) ?_
              refine brF (fun q1 => ?_) (fun q1 => ?_)
              · exact nm_r (nI_add _ _) (same (fun z => by rw [q1] at z; cases z))
              · refine xq d ok_Mo_has (r_has E d _ _ c (by omega)) (by omega) ?_
                refine brN (fun q2 => ?_) (fun q2 => ?_)
                · exact nm_r (nI_add _ _) (same (fun _ z => by rw [q2] at z; cases z))
                · refine xq (d + 1) ok_Mo_isOn (r_isOn E d M c (by omega)) (by omega) ?_
                  have hSc : aOn M c = S c := by rw [← hS]; rfl
                  rw [hSc]
                  refine brF (fun q3 => ?_) (fun q3 => ?_)
                  · exact nm_r (nI_add _ _) (same (fun _ _ z => by rw [q3] at z; cases z))
                  · refine xq (d + 1) ok_Mo_doClash (r_doClash E d M a c (by omega) (by omega)) (by omega) ?_
                    rw [hC]
                    refine brN (fun q4 => ?_) (fun q4 => ?_)
                    · refine nm_r (nI_add _ _) (ihc (x ||| b1 c) true ?_ (fun i hi hbi => ?_) (fun _ => ?_) (fun z => by cases z))
                      · rw [b_or, h1]; rfl
                      · rw [b_or, b1_at (by omega) hi] at hbi
                        cases hxi : bt x i with
                        | true => exact h2 i hi hxi
                        | false =>
                          rw [hxi, Bool.false_or] at hbi
                          have e := of_decide_eq_true hbi
                          subst e
                          exact Rh_step (h2 a (by omega) q1) hlt hlc q3 q4
                      · have e := mss_up q2 (by omega) n (by omega)
                        rw [if_pos hlc] at e
                        cases hb2 : b with
                        | true => have := h3 hb2; omega
                        | false => have := (h4 hb2).1; rw [this] at e ⊢; omega
                    · exact nm_r (nI_add _ _) (same (fun _ _ _ => q4))
          refine go ok_Mo_island [27] 60 ?_
          refine qLe hn rfl (by omega) (by omega) (fun q => absurd q (by omega)) (fun _ => ?_)
          exact cols 0 (Nat.zero_le _) x b h1 h2 h3 (fun hb2 => ⟨(h4 hb2).1, (h4 hb2).2, fun b' hb' => absurd hb' (by omega)⟩)
      refine go ok_Mo_island [15] 60 ?_
      refine cEq (a := 1) (b := 0) (by omega) (by omega) (fun q => absurd q (by omega)) (fun _ => ?_)
      exact rows 0 (Nat.zero_le _) x0 false hs0 hso (fun z => by cases z) (fun _ => ⟨rfl, fun a' ha' => absurd ha' (by omega)⟩) _
  refine outer (n + 1) (b1 s) (by have := mss_le (b1 s) n; omega) ?_ (fun i hi h => ?_) _ _
  · rw [b1_at (by omega) (by omega), decide_eq_true rfl]
  · rw [b1_at (by omega) hi] at h
    have e := of_decide_eq_true h
    subst e
    exact Rh_base
theorem r_islands (hX : RX M) (y : Int32) : Mt E (d + 3) m_Mo_islands [vP 60 0, vI y] M (RQ M (qIslands M y)) := by
  have hX0 : RX (M0 M) := hX
  obtain ⟨⟨hc, hc'⟩, ⟨hn, hn'⟩, ⟨hb, hb'⟩, ho⟩ := id hX.1
  refine Mt.go ok_Mo_islands [43] 60 rfl ?_
  refine qF hX.2 (fun h => ?_) (fun h => ?_)
  · refine x_ref E _ (nI 1) (by omega) ?_
    have e : qIslands M y = no 1 := by unfold qIslands; rw [if_pos (by rw [h]; rfl)]
    rw [e]; exact And.intro rfl rfl
  · refine xq d ok_Mo_in (r_in E d _ _ _ _) (by omega) ?_
    refine brN (fun h1 => ?_) (fun h1 => ?_)
    · have h1 : in3 y 2 = true := h1
      obtain ⟨w, hw, rfl⟩ := in3_at (by omega) h1
      refine ix 24 (show _ < 26 by omega) rfl ?_
      generalize hil : (fun s => isl (aS M) (aClash M) (sN M) s) = il
      have hF : aIsl M = isF (M.1 65 0 24) il (sN M) := by unfold aIsl; rw [hil]
      have e0 : qIslands M (nI w) = if nI w = nI 0 then ye (nI (aIsl M).2.1) else if nI w = nI 1 then ye (aBits (aIsl M).2.2 16) else ye (aIsl M).2.2 := by unfold qIslands; rw [if_neg (by rw [h, h1]; decide)]
      have key : ∀ t, t ≤ sN M → ∀ x k g j6, x = (isF (M.1 65 0 24) il t).1 → k = (isF (M.1 65 0 24) il t).2.1 → g = (isF (M.1 65 0 24) il t).2.2 → Wp E (d + 3) m_Mo_islands 43 [some (vP 60 0), some (vI (nI w)), some (vI x), some (vI (nI k)), some (vI g), some (vI (nI t)), j6] [] (M0 M) (RQ M (qIslands M (nI w))) := by
        refine loopUp (sN M) ?_ ?_
        · intro x k g j6 hx hk hg
          refine go ok_Mo_islands [43] 60 ?_
          refine qLe hn rfl (by omega) (by omega) (fun _ => ?_) (fun q => absurd q (by omega))
          rw [← hF] at hk hg
          refine cNe (by omega) (by omega) (fun w0 => ?_) (fun w0 => ?_)
          · refine cNe (by omega) (by omega) (fun w1 => ?_) (fun w1 => ?_)
            · refine x_good E _ _ (by omega) ?_
              rw [e0, if_neg (nI_dne (by omega) (by omega) w0), if_neg (nI_dne (by omega) (by omega) w1), hg]
              exact And.intro rfl rfl
            · refine xq d ok_Mo_bits (r_bits E d _ _) (by omega) ?_
              refine x_good E _ _ (by omega) ?_
              rw [e0, if_neg (nI_dne (by omega) (by omega) w0), if_pos (by rw [w1]), hg]
              exact And.intro rfl rfl
          · refine x_good E _ _ (by omega) ?_
            rw [e0, if_pos (by rw [w0]), hk]
            exact And.intro rfl rfl
        · intro t hlt ih x k g j6 hx hk hg
          refine go ok_Mo_islands [43] 60 ?_
          refine qLe hn rfl (by omega) (by omega) (fun q => absurd q (by omega)) (fun _ => ?_)
          refine xq d ok_Mo_has (r_has E d _ _ t (by omega)) (by omega) ?_
          refine brN (fun q1 => ?_) (fun q1 => ?_)
          · have hq1 : bt (isF (M.1 65 0 24) il t).1 t = true := by rw [← hx]; exact q1
            have est : isF (M.1 65 0 24) il (t + 1) = ((isF (M.1 65 0 24) il t).1 &&& (il t ^^^ -(nI 1)), (isF (M.1 65 0 24) il t).2.1 + 1, bif decide (aBits (isF (M.1 65 0 24) il t).2.2 16 < aBits (il t) 16) then il t else (isF (M.1 65 0 24) il t).2.2) := by rw [isF, hq1, cond_true]
            refine xq (d + 2) ok_Mo_island (r_island E d (M0 M) hX0.1 t hlt) (by omega) ?_
            have eil : isl (aS (M0 M)) (aClash (M0 M)) (sN (M0 M)) t = il t := by rw [← hil]; rfl
            rw [eil]
            refine nm_r (nI_add _ _) ?_
            refine xq d ok_Mo_bits (r_bits E d _ _) (by omega) ?_
            refine xq d ok_Mo_bits (r_bits E d _ _) (by omega) ?_
            refine And.intro (fun q => ?_) (fun q => ?_)
            · refine nm_r (nI_add _ _) (ih _ _ _ _ ?_ ?_ ?_)
              · rw [est, hx]
              · rw [est, hk]
              · rw [est, ← hg, decide_eq_false (Int32.not_lt.mpr q)]; rfl
            · refine nm_r (nI_add _ _) (ih _ _ _ _ ?_ ?_ ?_)
              · rw [est, hx]
              · rw [est, hk]
              · rw [est, ← hg, decide_eq_true (Int32.not_le.mp q)]; rfl
          · have hq1 : bt (isF (M.1 65 0 24) il t).1 t = false := by rw [← hx]; exact q1
            have est : isF (M.1 65 0 24) il (t + 1) = isF (M.1 65 0 24) il t := by rw [isF, hq1, cond_false]
            refine nm_r (nI_add _ _) (ih _ _ _ _ ?_ ?_ ?_)
            · rw [est, hx]
            · rw [est, hk]
            · rw [est, hg]
      exact key 0 (Nat.zero_le _) _ 0 _ _ rfl rfl rfl
    · have h1 : in3 y 2 = false := h1
      refine x_ref E _ (nI 1) (by omega) ?_
      have e : qIslands M y = no 1 := by unfold qIslands; rw [if_pos (by rw [h, h1]; rfl)]
      rw [e]; exact And.intro rfl rfl
theorem r_heard (hX : RX M) (x y z : Int32) : Mt E (d + 2) m_Mo_heard [vP 60 0, vI x, vI y, vI z] M (RQ M (qHeard M x y z)) := by
  have hX0 : RX (M0 M) := hX
  obtain ⟨⟨hc, hc'⟩, ⟨hn, hn'⟩, ⟨hb, hb'⟩, ho⟩ := id hX.1
  refine Mt.go ok_Mo_heard [65] 60 rfl ?_
  refine qF hX.2 (fun h => ?_) (fun h => ?_)
  · refine x_ref E _ (nI 1) (by omega) ?_
    have e : qHeard M x y z = no 1 := by unfold qHeard; rw [if_pos (by rw [h]; rfl)]
    rw [e]; exact And.intro rfl rfl
  · refine xq d ok_Mo_in (r_in E d _ _ _ _) (by omega) ?_
    refine brN (fun h1 => ?_) (fun h1 => ?_)
    · have h1 : in3 z 2 = true := h1
      obtain ⟨w, hw, rfl⟩ := in3_at (by omega) h1
      have two : (in3 x 99 && in3 y 99) = false → RQ M (qHeard M x y (nI w)) (some (vI (-(nI 1)))) (sI (sI (M0 M) 60 0 1 (nI 2)) 60 0 2 (-(nI 1))) := by
        intro h2
        have e : qHeard M x y (nI w) = no 2 := by unfold qHeard; rw [if_neg (by rw [h, h1]; decide), if_pos h2]
        rw [e]; exact And.intro rfl rfl
      refine xq d ok_Mo_in (r_in E d _ _ _ _) (by omega) ?_
      refine brF (fun h2 => ?_) (fun h2 => ?_)
      · have h2 : in3 x 99 = false := h2
        exact x_ref E _ (nI 2) (by omega) (two (by rw [h2]; rfl))
      · have h2 : in3 x 99 = true := h2
        refine xq d ok_Mo_in (r_in E d _ _ _ _) (by omega) ?_
        refine brN (fun h3 => ?_) (fun h3 => ?_)
        · have h3 : in3 y 99 = true := h3
          generalize hf : hrd M x y = f
          have e0 : qHeard M x y (nI w) = if nI w = nI 0 then ye (mkS f (sN M)) else if nI w = nI 1 then ye (hOnce f (oN M) (sN M) &&& (hTwice f (oN M) (sN M) ^^^ -(nI 1))) else ye (hTwice f (oN M) (sN M)) := by
            unfold qHeard; rw [if_neg (by rw [h, h1]; decide), if_neg (by rw [h2, h3]; decide), hf]
          have key : ∀ t, t ≤ sN M → ∀ a b c j8 j9 j10, a = mkS f t → b = hOnce f (oN M) t → c = hTwice f (oN M) t → Wp E (d + 2) m_Mo_heard 65 [some (vP 60 0), some (vI x), some (vI y), some (vI (nI w)), some (vI a), some (vI b), some (vI c), some (vI (nI t)), j8, j9, j10] [] (M0 M) (RQ M (qHeard M x y (nI w))) := by
            refine loopUp (sN M) ?_ ?_
            · intro a b c j8 j9 j10 ha hb2 hc2
              refine go ok_Mo_heard [65] 60 ?_
              refine qLe hn rfl (by omega) (by omega) (fun _ => ?_) (fun q => absurd q (by omega))
              refine cNe (by omega) (by omega) (fun w0 => ?_) (fun w0 => ?_)
              · refine cNe (by omega) (by omega) (fun w1 => ?_) (fun w1 => ?_)
                · refine x_good E _ _ (by omega) ?_
                  rw [e0, if_neg (nI_dne (by omega) (by omega) w0), if_neg (nI_dne (by omega) (by omega) w1), hc2]
                  exact And.intro rfl rfl
                · refine x_good E _ _ (by omega) ?_
                  rw [e0, if_neg (nI_dne (by omega) (by omega) w0), if_pos (by rw [w1]), hb2, hc2]
                  exact And.intro rfl rfl
              · refine x_good E _ _ (by omega) ?_
                rw [e0, if_pos (by rw [w0]), ha]
                exact And.intro rfl rfl
            · intro t hlt ih a b c j8 j9 j10 ha hb2 hc2
              obtain ⟨o1, o2, o3⟩ := ho t hlt
              refine go ok_Mo_heard [65] 100 ?_
              refine qLe hn rfl (by omega) (by omega) (fun q => absurd q (by omega)) (fun _ => ?_)
              refine ix (3 * t) (show _ < 72 by omega) (nI_mul 3 t) ?_
              refine ix (3 * t + 1) (show _ < 72 by omega) (by rw [nI_mul, nI_s8]) ?_
              refine xq (d + 1) ok_Mo_isOn (r_isOn E d _ t (by omega)) (by omega) ?_
              have skip : f t = false → ∀ v8 v9, Wp E (d + 2) m_Mo_heard 65 [some (vP 60 0), some (vI x), some (vI y), some (vI (nI w)), some (vI a), some (vI b), some (vI c), some (vI (nI (t + 1))), v8, v9, j10] [] (M0 M) (RQ M (qHeard M x y (nI w))) := by
                intro hft v8 v9
                refine ih _ _ _ _ _ _ ?_ ?_ ?_
                · rw [ha, mkS, hft]; rfl
                · rw [hb2, hOnce, hft]; rfl
                · rw [hc2, hTwice, hft]; rfl
              refine brF (fun q1 => ?_) (fun q1 => ?_)
              · have q1 : aOn M t = false := q1
                refine nm_r (nI_add _ _) (skip ?_ _ _)
                rw [← hf]; unfold hrd; rw [q1]; rfl
              · have q1 : aOn M t = true := q1
                refine xq d ok_Mo_reach (r_reach E d _ t (by omega)) (by omega) ?_
                refine xq d ok_Mo_reach (r_reach E d _ t (by omega)) (by omega) ?_
                refine And.intro (fun q => ?_) (fun q => ?_)
                · have hft : f t = true := by
                    rw [← hf]; unfold hrd; rw [q1, Bool.true_and]
                    exact decide_eq_true q
                  refine ix t (show _ < 26 by omega) (by rw [nI_s8, Nat.zero_add]) ?_
                  have o4 : (M0 M).1 65 0 t = nI (oN M t) := o1
                  refine nm_r (nI_add _ _) (ih _ _ _ _ _ _ ?_ ?_ ?_)
                  · rw [ha, mkS, hft]; rfl
                  · rw [hb2, hOnce, hft, o4, nI_m1 (by omega)]; rfl
                  · rw [hc2, hb2, hTwice, hft, o4, nI_m1 (by omega)]; rfl
                · have hft : f t = false := by
                    rw [← hf]; unfold hrd; rw [q1, Bool.true_and]
                    exact decide_eq_false q
                  exact nm_r (nI_add _ _) (skip hft _ _)
          exact key 0 (Nat.zero_le _) _ _ _ _ _ _ rfl rfl rfl
        · have h3 : in3 y 99 = false := h3
          exact x_ref E _ (nI 2) (by omega) (two (by rw [h3, Bool.and_false]))
    · have h1 : in3 z 2 = false := h1
      refine x_ref E _ (nI 1) (by omega) ?_
      have e : qHeard M x y z = no 1 := by unfold qHeard; rw [if_pos (by rw [h, h1]; rfl)]
      rw [e]; exact And.intro rfl rfl
end R19
