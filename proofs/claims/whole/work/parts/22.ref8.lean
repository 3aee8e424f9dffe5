/-! the reference: rowsFrom, isFit -/
def scr2 (i k : Nat) : Bool := Nat.beq i 70 || (Nat.beq i 71 || (Nat.beq i 60 && (Nat.beq k 32 || Nat.beq k 33)))
def Ag2 (M M' : Me) : Prop := (∀ i r k, scr2 i k = false → M'.1 i r k = M.1 i r k) ∧ M'.2 = M.2
theorem Ag2.rf (M : Me) : Ag2 M M := ⟨fun _ _ _ _ => rfl, rfl⟩
theorem Ag2.tr {M M' M'' : Me} (h : Ag2 M M') (h' : Ag2 M' M'') : Ag2 M M'' := ⟨fun i r k e => (h'.1 i r k e).trans (h.1 i r k e), h'.2.trans h.2⟩
theorem ag2_sI {M : Me} {i r k : Nat} {x : Int32} (h : scr2 i k = true) : Ag2 M (sI M i r k x) := ⟨fun a b c e => up3_ne (fun z => by obtain ⟨rfl, rfl, rfl⟩ := z; rw [h] at e; cases e), rfl⟩
theorem scr2_R {i k : Nat} (h : scrR i k = false) : scr2 i k = false := by
  cases e : scr2 i k with
  | false => rfl
  | true =>
    unfold scr2 at e
    simp only [Bool.or_eq_true, Bool.and_eq_true, Nat.beq_eq] at e
    rcases e with rfl | rfl | ⟨rfl, rfl | rfl⟩
    · have h2 : scrR 70 k = true := rfl
      rw [h2] at h; cases h
    · have h2 : scrR 71 k = true := rfl
      rw [h2] at h; cases h
    · have h2 : scrR 60 32 = true := rfl
      rw [h2] at h; cases h
    · have h2 : scrR 60 33 = true := rfl
      rw [h2] at h; cases h
theorem Ag2.R {M M' : Me} (h : Ag2 M M') : AgR M M' := ⟨fun i r k e => h.1 i r k (scr2_R e), h.2⟩
def RF (n : Nat) (S : Nat → Bool) (M M' : Me) (s f most : Nat) (ρ : Nat → Nat) (X : List (Nat → Nat)) : Prop :=
  Ag2 M M' ∧ M'.1 60 0 33 = nI most ∧ M'.1 60 0 32 = nI (min most (f + X.length)) ∧ (∃ ρ', RR M' ρ' ∧ ∀ t, t < s → ρ' t = ρ t) ∧ (f = 0 → ∀ x, X.head? = some x → ∀ t, t < n → S t = true → M'.1 71 0 t = nI (x t)) ∧ (f ≠ 0 → M'.1 71 = M.1 71)
theorem RR_up {M : Me} {ρ : Nat → Nat} (h : RR M ρ) {s c : Nat} (hc : c ≤ 10) : RR (sI M 70 0 s (nI c)) (upN ρ s c) := by
  intro t ht
  show up3 M.1 70 0 s (nI c) 70 0 t = _ ∧ _
  rw [up3_at]
  by_cases e : t = s
  · rw [if_pos e, e, upN_same]; exact ⟨rfl, hc⟩
  · rw [if_neg e, upN_ne e]; exact h t ht
/-- one part of a search behind another -/
theorem RF.app {n : Nat} {S : Nat → Bool} {M N N' : Me} {s s' f most : Nat} {ρ ρ' : Nat → Nat} {X Y : List (Nat → Nat)} (hm : 1 ≤ most) (h : RF n S M N s f most ρ X) (h' : RF n S N N' s' (min most (f + X.length)) most ρ' Y) (hs : s ≤ s') (hρ : ∀ t, t < s → ρ' t = ρ t) : RF n S M N' s f most ρ (X ++ Y) := by
  obtain ⟨a1, a2, a3, a4, a5, a6⟩ := h
  obtain ⟨b1, b2, b3, ⟨ρ'', b4, b4'⟩, b5, b6⟩ := h'
  refine ⟨a1.tr b1, b2, ?_, ⟨ρ'', b4, fun t ht => (b4' t (by omega)).trans (hρ t ht)⟩, fun hf x hx t ht hS => ?_, fun hf => ?_⟩
  · rw [b3, List.length_append]; congr 1; omega
  · cases X with
    | nil => exact b5 (by rw [hf]; simp) x hx t ht hS
    | cons y X =>
      rw [b6 (by rw [hf]; simp only [List.length_cons]; omega)]
      exact a5 hf x hx t ht hS
  · rw [b6 (by omega), a6 hf]
theorem exr_in {S : Nat → Bool} {L : Nat → Nat → Bool} {D : Nat → Nat → Nat → Nat → Bool} {m n k s : Nat} {ρ : Nat → Nat} (h : S s = true) : exr S L D m n (k + 1) s ρ = (List.range m).flatMap (fun c => bif okC S L D s (c + 1) ρ then exr S L D m n k (s + 1) (upN ρ s (c + 1)) else []) := by
  unfold exr
  rw [ext, h, cond_true, List.map_flatMap]
  congr 1
  funext c
  cases okC S L D s (c + 1) ρ <;> rfl
theorem exr_out {S : Nat → Bool} {L : Nat → Nat → Bool} {D : Nat → Nat → Nat → Nat → Bool} {m n k s : Nat} {ρ : Nat → Nat} (h : S s = false) : exr S L D m n (k + 1) s ρ = exr S L D m n k (s + 1) ρ := by
  unfold exr
  rw [ext, h, cond_false]
section R9
variable (E : EV) (d : Nat)
theorem r_rowsFrom (set : Int32) (m most : Nat) (hm : m ≤ 10) (h1m : 1 ≤ most) (hmost : most < 1000) : ∀ (k s : Nat) (M : Me) (f : Nat) (ρ : Nat → Nat), s + k = sN M → RW M → RR M ρ → M.1 60 0 33 = nI most → M.1 60 0 32 = nI f → f ≤ most → Mt E (d + 4 + k) m_Mo_rowsFrom [vP 60 0, vI set, vI (nI m), vI (nI s)] M (fun r M' => r = none ∧ RF (sN M) (bt set) M M' s f most ρ (exr (bt set) (aLst M) (aDist M) m (sN M) k s ρ)) := by
  intro k
  induction k with
  | zero =>
    intro s M f ρ hsk hR hr hmo hfo hfm
    obtain ⟨⟨hc, hc'⟩, ⟨hn, hn'⟩, ⟨hb, hb'⟩, ho⟩ := id hR
    have hs : s = sN M := by omega
    have hX : (exr (bt set) (aLst M) (aDist M) m (sN M) 0 s ρ) = [res (bt set) (sN M) ρ] := by unfold exr; rw [ext]; rfl
    rw [hX]
    refine Mt.go ok_Mo_rowsFrom [30, 59] 60 rfl ?_
    refine qLt hfo hmo (by omega) (by omega) (fun hlt => ?_) (fun hge => ?_)
    · refine qNe rfl hn (by omega) (by omega) (fun q => absurd hs q) (fun _ => ?_)
      have key : ∀ N j4, Ag2 M N → N.1 60 0 33 = nI most → N.1 60 0 32 = nI f → RR N ρ → (f = 0 → ∀ t, t < sN M → N.1 71 0 t = nI (ρ t)) → (f ≠ 0 → N.1 71 = M.1 71) → Wp E (d + 4 + 0) m_Mo_rowsFrom 59 [some (vP 60 0), some (vI set), some (vI (nI m)), some (vI (nI s)), j4] [] N (fun r M' => r = none ∧ RF (sN M) (bt set) M M' s f most ρ [res (bt set) (sN M) ρ]) := by
        intro N j4 a1 a2 a3 a4 a5 a6
        refine go ok_Mo_rowsFrom [] 60 ?_
        refine And.intro rfl ?_
        have e : N.1 60 0 32 + nI 1 = nI (f + 1) := by rw [a3, nI_add]
        refine ⟨a1.tr (ag2_sI rfl), a2, ?_, ⟨ρ, a4, fun _ _ => rfl⟩, fun hf x hx t ht hS => ?_, fun hf => a6 hf⟩
        · rw [show min most (f + [res (bt set) (sN M) ρ].length) = f + 1 by simp only [List.length_cons, List.length_nil]; omega]
          exact e
        · simp only [List.head?_cons, Option.some.injEq] at hx
          subst hx
          unfold res
          rw [hS, decide_eq_true ht]
          exact a5 hf t ht
      refine qNe hfo rfl (by omega) (by omega) (fun hf => ?_) (fun hf => ?_)
      · exact key M none (Ag2.rf M) hmo hfo hr (fun q => absurd q hf) (fun _ => rfl)
      · have key2 : ∀ t, t ≤ sN M → ∀ N, N = setR M 71 0 0 t (M.1 70 0) → Wp E (d + 4 + 0) m_Mo_rowsFrom 30 [some (vP 60 0), some (vI set), some (vI (nI m)), some (vI (nI s)), some (vI (nI t))] [] N (fun r M' => r = none ∧ RF (sN M) (bt set) M M' s f most ρ [res (bt set) (sN M) ρ]) := by
          refine loopUp (sN M) ?_ ?_
          · rintro N rfl
            refine go ok_Mo_rowsFrom [59] 60 ?_
            refine qLe hn rfl (by omega) (by omega) (fun _ => ?_) (fun q => absurd q (by omega))
            refine key _ _ ⟨fun i r j e => setR_out (fun z => by obtain ⟨rfl, rfl, z3, z4⟩ := z; cases e), rfl⟩ hmo hfo (fun t ht => hr t ht) (fun _ t ht => ?_) (fun q => absurd hf q)
            have := setR_at (M := M) (i := 71) (r := 0) (lo := 0) (n := sN M) (f := M.1 70 0) (k := t) ht
            rw [Nat.zero_add] at this
            rw [this]
            exact (hr t (by omega)).1
          · rintro t hlt ih N rfl
            refine go ok_Mo_rowsFrom [30, 59] 60 ?_
            refine qLe hn rfl (by omega) (by omega) (fun q => absurd q (by omega)) (fun _ => ?_)
            refine ix t (show _ < 8 by omega) rfl ?_
            refine ix t (show _ < 8 by omega) rfl ?_
            refine nm_r (nI_add _ _) (ih _ ?_)
            rw [← setR_step, Nat.zero_add]; rfl
        exact key2 0 (Nat.zero_le _) _ (setR_0 _ _ _ _ _).symm
    · refine And.intro rfl ?_
      refine ⟨Ag2.rf M, hmo, ?_, ⟨ρ, hr, fun _ _ => rfl⟩, fun hf => absurd hf (by omega), fun _ => rfl⟩
      rw [show min most (f + [res (bt set) (sN M) ρ].length) = f by simp only [List.length_cons, List.length_nil]; omega]
      exact hfo
  | succ k ih =>
    intro s M f ρ hsk hR hr hmo hfo hfm
    obtain ⟨⟨hc, hc'⟩, ⟨hn, hn'⟩, ⟨hb, hb'⟩, ho⟩ := id hR
    have hs : s < sN M := by omega
    generalize hX : (exr (bt set) (aLst M) (aDist M) m (sN M) (k + 1) s ρ) = X
    refine Mt.go ok_Mo_rowsFrom [91] 60 rfl ?_
    refine qLt hfo hmo (by omega) (by omega) (fun hlt => ?_) (fun hge => ?_)
    · refine qNe rfl hn (by omega) (by omega) (fun _ => ?_) (fun q => absurd q (by omega))
      refine xq (d + 3) ok_Mo_has (r_has E (d + 3) M _ s (by omega)) (by omega) ?_
      refine brN (fun hS => ?_) (fun hS => ?_)
      · -- the set has s
        generalize hg : (fun c => bif okC (bt set) (aLst M) (aDist M) s (c + 1) ρ then exr (bt set) (aLst M) (aDist M) m (sN M) k (s + 1) (upN ρ s (c + 1)) else []) = g
        have hXg : X = (List.range m).flatMap g := by rw [← hX, exr_in hS, hg]
        have key : ∀ c, c ≤ m → ∀ N, RF (sN M) (bt set) M N s f most ρ ((List.range c).flatMap g) → Wp E (d + 4 + (k + 1)) m_Mo_rowsFrom 91 [some (vP 60 0), some (vI set), some (vI (nI m)), some (vI (nI s)), some (vI (nI (c + 1)))] [] N (fun r M' => r = none ∧ RF (sN M) (bt set) M M' s f most ρ X) := by
          refine loopUp m ?_ ?_
          · intro N hN
            refine go ok_Mo_rowsFrom [91] 60 ?_
            refine cLt (by omega) (by omega) (fun _ => ?_) (fun q => absurd q (by omega))
            refine And.intro rfl ?_
            rw [hXg]; exact hN
          · intro c hlt ihc N hN
            obtain ⟨a1, a2, a3, ⟨ρN, a4, a4'⟩, a5, a6⟩ := id hN
            have aR := a1.R
            refine go ok_Mo_rowsFrom [91] 60 ?_
            refine cLt (by omega) (by omega) (fun q => absurd q (by omega)) (fun _ => ?_)
            refine qLe a2 a3 (by omega) (by omega) (fun hfull => ?_) (fun hroom => ?_)
            · refine And.intro rfl ?_
              obtain ⟨Z, hZ⟩ : ∃ Z, X = (List.range c).flatMap g ++ Z := by
                refine ⟨((List.range (m - c)).map (c + ·)).flatMap g, ?_⟩
                rw [hXg, ← List.flatMap_append, ← List.range_add, show c + (m - c) = m by omega]
              refine ⟨a1, a2, ?_, ⟨ρN, a4, a4'⟩, fun hf x hx => ?_, a6⟩
              · rw [a3, hZ, List.length_append]; congr 1; omega
              · refine a5 hf x ?_
                rw [hZ, List.head?_append] at hx
                cases hh : ((List.range c).flatMap g).head? with
                | none =>
                  rw [List.head?_eq_none_iff] at hh
                  rw [hh] at hfull
                  simp only [List.length_nil] at hfull
                  omega
                | some y => rw [hh] at hx; exact hx
            · have hsn : sN N = sN M := agS aR
              refine xq (d + 3) ok_Mo_mayStand (r_mayStand E d N (agRW aR hR) a4 set s (c + 1) (by omega) (by omega) (by omega)) (by omega) ?_
              have eok : okC (bt set) (aLst N) (aDist N) s (c + 1) ρN = okC (bt set) (aLst M) (aDist M) s (c + 1) ρ := by
                rw [agL aR, agD aR]
                exact okC_cg (fun t ht _ => a4' t ht)
              rw [eok]
              have esucc : (List.range (c + 1)).flatMap g = (List.range c).flatMap g ++ g c := by
                rw [List.range_succ, List.flatMap_append, List.flatMap_singleton]
              refine brN (fun hok => ?_) (fun hok => ?_)
              · refine ix s (show _ < 8 by omega) rfl ?_
                have a4n : RR (sI N 70 0 s (nI (c + 1))) (upN ρN s (c + 1)) := RR_up a4 (by omega)
                have b1 : Ag2 N (sI N 70 0 s (nI (c + 1))) := ag2_sI rfl
                have b1R := b1.R
                have bRW := agRW b1R (agRW aR hR)
                have egc : g c = exr (bt set) (aLst M) (aDist M) m (sN M) k (s + 1) (upN ρN s (c + 1)) := by
                  rw [← hg]
                  simp only [hok, cond_true]
                  refine exr_cg k (s + 1) _ _ (by omega) (fun t ht hSt => ?_)
                  by_cases e : t = s
                  · subst e; rw [upN_same, upN_same]
                  · rw [upN_ne e, upN_ne e, a4' t (by omega)]
                have hN1 : RF (sN M) (bt set) M (sI N 70 0 s (nI (c + 1))) s f most ρ ((List.range c).flatMap g) := ⟨a1.tr b1, a2, a3, ⟨_, a4n, fun t ht => by rw [upN_ne (by omega)]; exact a4' t ht⟩, a5, a6⟩
                refine xq (d + 3) ok_Mo_isOpen (r_isOpen E d _ bRW a4n set m s (by rw [agS b1R, hsn]; exact hs) hm) (by omega) ?_
                rw [agL b1R, agD b1R, agS b1R, agL aR, agD aR, hsn]
                refine brF (fun hop => ?_) (fun hop => ?_)
                · refine nm_r (nI_add _ _) (ihc _ ?_)
                  have : g c = [] := by
                    rw [egc]; unfold exr
                    rw [ext_shut (n := sN M) (by omega) hop]; rfl
                  rw [esucc, this, List.append_nil]
                  exact hN1
                · refine xc (d + 4 + k) ok_Mo_rowsFrom (by rw [nI_add]; exact ih (s + 1) (sI N 70 0 s (nI (c + 1))) (min most (f + ((List.range c).flatMap g).length)) (upN ρN s (c + 1)) (by rw [agS b1R, hsn]; omega) bRW a4n a2 a3 (by omega)) (by omega) ?_
                  rintro r M' ⟨rfl, hF⟩
                  rw [agL b1R, agD b1R, agS b1R, agL aR, agD aR, hsn, ← egc] at hF
                  refine nm_r (nI_add _ _) (ihc _ ?_)
                  rw [esucc]
                  exact RF.app h1m hN1 hF (by omega) (fun t ht => by rw [upN_ne (by omega)]; exact a4' t ht)
              · refine nm_r (nI_add _ _) (ihc _ ?_)
                have : g c = [] := by rw [← hg]; simp only [hok, cond_false]
                rw [esucc, this, List.append_nil]
                exact hN
        refine key 0 (Nat.zero_le _) M ?_
        refine ⟨Ag2.rf M, hmo, ?_, ⟨ρ, hr, fun _ _ => rfl⟩, fun hf x hx => by simp at hx, fun _ => rfl⟩
        rw [hfo]; congr 1; simp; omega
      · -- the set hasn't s
        refine xc (d + 4 + k) ok_Mo_rowsFrom (by rw [nI_add]; exact ih (s + 1) M f ρ (by omega) hR hr hmo hfo hfm) (by omega) ?_
        rintro r M' ⟨rfl, hF⟩
        refine And.intro rfl ?_
        rw [← hX, exr_out hS]
        obtain ⟨a1, a2, a3, ⟨ρN, a4, a4'⟩, a5, a6⟩ := hF
        exact ⟨a1, a2, a3, ⟨ρN, a4, fun t ht => a4' t (by omega)⟩, a5, a6⟩
    · refine And.intro rfl ?_
      refine ⟨Ag2.rf M, hmo, ?_, ⟨ρ, hr, fun _ _ => rfl⟩, fun hf => absurd hf (by omega), fun _ => rfl⟩
      rw [hfo]; congr 1; omega
end R9
