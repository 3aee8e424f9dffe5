/-! the class: a border, the channels, a text read -/
def ChC (T : TT) (B : Me) (p : Nat) (r : Option AV) (M' : Me) : FL ⊕ (Nat × Nat) → Prop
  | .inl q => r = some (vI (nI 0)) ∧ CMe T B (.inl q) M'
  | .inr z => r = some (vI (nI 1)) ∧ CMe T (sI B 30 p 10 (nI z.1)) (.inr z.2) M'
def RdC (T : TT) (B : Me) (p : Nat) (r : Option AV) (M' : Me) : FL ⊕ (Nat × SP) → Prop
  | .inl q => r = some (vI (nI 0)) ∧ ∃ B', FrC p B B' ∧ CMe T B' (.inl q) M'
  | .inr z => r = some (vI (nI 1)) ∧ ∃ B', FrC p B B' ∧ CMe T B' (.inr z.2.2.2.2.2) M' ∧ PDc T B' p z.1 z.2
theorem mC_setR {B : Me} {f : Nat → Int32} {i r lo n : Nat} {g : Nat → Int32} (h : i ≠ 3) : setR (mC B f) i r lo n g = mC (setR B i r lo n g) f := by
  refine Prod.ext ?_ rfl
  funext a b c
  by_cases e : a = 3
  · subst e
    rw [setR_out (fun z => h z.1.symm)]
    unfold mC
    dsimp only
    rw [setR_out (fun z => h z.1.symm)]
  · rw [mC_o e, setR_if, setR_if, mC_o e]
theorem mC_peM {B : Me} {f : Nat → Int32} {p : Nat} : peM (mC B f) p = mC (peM B p) f := by
  unfold peM
  rw [mC_sIo (by omega), mC_sIo (by omega), mC_setR (by omega), mC_sIo (by omega), mC_setR (by omega)]
theorem FrC_peM {B : Me} {p : Nat} : FrC p B (peM B p) := by
  unfold peM
  refine FrC_setR (FrC_sI (FrC_setR (FrC_sI (FrC_sI (FrC_rf _ _) ?_) ?_) (fun k => ?_)) ?_) (fun k => ?_) <;> (unfold PZc; omega)
section CR6
variable (E : EV) (d : Nat) {T : TT} {B : Me}
theorem c_readBorder {f : Nat → Int32} (hS : StrOK E) (hT : CTp T B) (p C : Nat) (hC : C ≤ 10) (S : SP) (hD : PDc T B p C S) (h : CT T f (.inr S.2.2.2.2)) : Mt E (d + 8) m_Reader_readBorder [vP 3 0, vP 30 p] (mC B f) (fun r M' => LnC T B p C r M' (brd T C S)) := by
  obtain ⟨st, bd, P, nb, b⟩ := S
  generalize hN : brd T C (st, bd, P, nb, b) = N
  generalize hQ : (fun r M' => LnC T B p C r M' N : Option AV → Me → Prop) = Q
  obtain ⟨⟨d1, d1', d1''⟩, ⟨d2, d2'⟩, ⟨d3, d3'⟩, d4, d5, d6, d7⟩ := id hD
  dsimp only at d1 d2 d2' d3 d3' d4 d5 d6 d7 h
  have bad : ∀ q, N = .inl q → ∀ B1, FrC p B B1 → ∀ M', CMe T B1 (.inl q) M' → Q (some (vI (nI 0))) M' := by
    intro q e B1 hF M' hM
    rw [← hQ]
    show LnC _ _ _ _ _ _ N
    rw [e]
    exact ⟨rfl, B1, hF, hM⟩
  have f19 : bd < 4 → ∀ v, v = nI bd → Wp E (d + 8) m_Reader_readBorder 19 [some (vP 3 0), some (vP 30 p), some (vI v)] [] (mC B f) Q := by
    rintro hbd v rfl
    have hN2 : N = bnd (plcR T (.inr (tX T b))) fun b4 => bnd (notR T C b4) fun z => .inr (st, bd + 1, bdP P bd (nI (plX T (tX T b))) (nI (plY T (tX T b))) (nI (plZ T (tX T b))) z.1, nb, z.2) := by
      rw [← hN]
      unfold brd
      dsimp only
      rw [decide_eq_false (show ¬ bd = 4 by omega), cond_false]
      show bnd (plcR T (.inr (tX T b))) _ = _
      congr 1
      funext b4
      unfold notR
      cases isW T 6 (.inr b4) <;> rfl
    clear hN
    generalize hb1 : tX T b = b1 at hN2
    refine go ok_Reader_readBorder [53] 60 ?_
    refine xc (d + 1) ok_Reader_nextToken (c_nextToken E d hT h) (by omega) ?_
    rintro r M1 ⟨rfl, f1, rfl, k1⟩
    rw [hb1] at k1
    refine xc (d + 7) ok_Reader_readPlace (c_readPlace E d hS hT 36 p 4 bd (by omega) d1'' hbd k1) (by omega) ?_
    rintro r M3 k3
    cases hpl : plcR T (.inr b1) with
    | inl q =>
      rw [hpl] at k3 hN2
      obtain ⟨rfl, B1, hF1, hM⟩ := k3
      refine And.intro (fun _ => And.intro (Or.inl rfl) ?_) (fun e => absurd rfl e)
      exact bad q hN2 _ hF1 _ hM
    | inr b4 =>
      rw [hpl] at k3 hN2
      rw [bnd_inr] at hN2
      obtain ⟨rfl, f3, rfl, k3⟩ := k3
      refine And.intro (fun e => absurd e (by decide)) (fun _ => ?_)
      generalize plX T b1 = x at *
      generalize plY T b1 = y at *
      generalize plZ T b1 = z at *
      clear hpl k1
      have hF3 : FrC p B (plC B 36 p bd x y z) := FrC_plC (FrC_rf _ _) (Or.inr rfl)
      have hT3 := CTp_FrC hF3 hT
      have o3 : ∀ a r k, a = 30 ∨ a = 36 ∨ a = 40 → (plC B 36 p bd x y z).1 a r k = B.1 a r k := by
        intro a r k ha
        unfold plC
        rw [sI_at, if_neg (by omega), sI_at, if_neg (by omega), sI_at, if_neg (by omega)]
      have f53 : ∀ b6 v f6, N = .inr (st, bd + 1, bdP P bd (nI x) (nI y) (nI z) v, nb, b6) → CT T f6 (.inr b6) → Wp E (d + 8) m_Reader_readBorder 53 [some (vP 3 0), some (vP 30 p), some (vI (nI bd))] [] (mC (sI (plC B 36 p bd x y z) 40 p bd v) f6) Q := by
        intro b6 v f6 hN6 k6
        have e5 : (mC (sI (plC B 36 p bd x y z) 40 p bd v) f6).1 36 p 5 = nI bd := by
          rw [mC_o (by omega), sI_at, if_neg (by omega), o3 _ _ _ (by omega)]; exact d3
        refine go ok_Reader_readBorder [] 60 ?_
        refine And.intro (Or.inr rfl) ?_
        rw [← hQ]
        show LnC _ _ _ _ _ _ N
        rw [hN6]
        refine ⟨rfl, sI (sI (plC B 36 p bd x y z) 40 p bd v) 36 p 5 (nI bd + nI 1), ?_, ⟨f6, ?_, k6⟩, PDc_bd hD hbd b6 x y z v⟩
        · refine FrC_sI (FrC_sI hF3 ?_) ?_ <;> (unfold PZc; omega)
        · rw [e5]
          exact mC_sIo (by omega)
      have h10 : (mC (plC B 36 p bd x y z) f3).1 30 p 10 = nI C := by rw [mC_o (by omega), o3 _ _ _ (by omega)]; exact d1
      have hx := c_readNot E d hS hT3 36 p 4 bd C (by omega) (by rw [o3 _ _ _ (by omega)]; exact d1'') hbd hC (by rw [o3 _ _ _ (by omega)]; exact d7 bd (Nat.le_refl _) hbd) k3
      rw [← h10] at hx
      refine xc (d + 7) ok_Reader_readNot hx (by omega) ?_
      rintro r M6 k6
      cases hn : notR T C b4 with
      | inl q =>
        rw [hn] at k6 hN2
        obtain ⟨rfl, B1, hF1, hM⟩ := k6
        refine And.intro (fun e => absurd rfl e) (fun _ => And.intro (Or.inl rfl) ?_)
        exact bad q hN2 _ (FrC_tr hF3 hF1) _ hM
      | inr z7 =>
        rw [hn] at k6 hN2
        obtain ⟨rfl, f6, rfl, k6⟩ := k6
        refine And.intro (fun _ => ?_) (fun e => absurd e (by decide))
        exact f53 z7.2 z7.1 f6 hN2 k6
  refine Mt.go ok_Reader_readBorder [19] 60 rfl ?_
  refine qLt (show (mC B f).1 36 p 5 = nI bd from d3) rfl (by omega) (by omega) (fun hbd => f19 hbd _ d3) (fun hbd => ?_)
  have hN : N = .inl (4, b) := by
    rw [← hN]
    unfold brd
    dsimp only
    rw [decide_eq_true (show bd = 4 by omega)]
    rfl
  refine xc d ok_Reader_faulty (c_faulty E d 4 h) (by omega) ?_
  rintro r M' ⟨rfl, hM⟩
  refine And.intro (Or.inl rfl) ?_
  exact bad _ hN _ (FrC_rf _ _) _ hM
theorem c_readChannels {f : Nat → Int32} {b : Nat} (hS : StrOK E) (hT : CTp T B) (p : Nat) (h : CT T f (.inr b)) : Mt E (d + 7) m_Reader_readChannels [vP 3 0, vP 30 p] (mC B f) (fun r M' => ChC T B p r M' (whl T 1 10 (ned T 0 (.inr b)))) := by
  generalize hN : whl T 1 10 (ned T 0 (.inr b)) = N
  refine Mt.go ok_Reader_readChannels [] 60 rfl ?_
  refine xc (d + 6) ok_Reader_passWord (c_passWord E d hS hT 0 (by omega) h) (by omega) ?_
  rintro r M1 k1
  cases hw : ned T 0 (.inr b) with
  | inl q =>
    rw [hw] at k1 hN
    obtain ⟨rfl, hM⟩ := k1
    refine And.intro (fun _ => And.intro (Or.inl rfl) ?_) (fun e => absurd rfl e)
    subst hN
    exact ⟨rfl, hM⟩
  | inr b1 =>
    rw [hw] at k1 hN
    obtain ⟨rfl, f1, rfl, k1⟩ := k1
    refine And.intro (fun e => absurd e (by decide)) (fun _ => ?_)
    refine xc (d + 1) ok_Reader_isWhole (c_isWhole E d 1 10 (by omega) (by omega) k1) (by omega) ?_
    rintro r M2 k2
    cases hw2 : whl T 1 10 (.inr b1) with
    | inl q =>
      rw [hw2] at k2 hN
      obtain ⟨rfl, hM⟩ := k2
      refine And.intro (fun e => absurd rfl e) (fun _ => And.intro (Or.inl rfl) ?_)
      subst hN
      exact ⟨rfl, hM⟩
    | inr z =>
      rw [hw2] at k2 hN
      obtain ⟨b0, e0, ez, kk, lo, hi'⟩ := whl_inr hw2
      cases e0
      subst ez
      obtain ⟨rfl, rfl⟩ := k2
      refine And.intro (fun _ => ?_) (fun e => absurd e (by decide))
      refine xc (d + 2) ok_Reader_taken (c_taken E d hT k1 kk) (by omega) ?_
      rintro r M3 ⟨rfl, f3, rfl, k3⟩
      refine And.intro (Or.inr rfl) ?_
      subst hN
      exact ⟨rfl, f3, mC_sIo (by omega), k3⟩
theorem c_read (hS : StrOK E) (M : Me) (p n : Nat) (hT : CTp T M) (hn : T.2 = n) (h8 : M.1 31 p 4 = nI 8) (h4 : M.1 36 p 4 = nI 4) : Mt E (d + 9) m_Reader_read [vP 3 0, vI (nI n), vP 30 p] M (fun r M' => RdC T M p r M' (prs T)) := by
  generalize hN : prs T = N
  generalize hQ : (fun r M' => RdC T M p r M' N : Option AV → Me → Prop) = Q
  have t1 := hT.1
  have bad : ∀ q, N = .inl q → ∀ B1, FrC p M B1 → ∀ M', CMe T B1 (.inl q) M' → Q (some (vI (nI 0))) M' := by
    intro q e B1 hF M' hM
    rw [← hQ]
    show RdC _ _ _ _ _ N
    rw [e]
    exact ⟨rfl, B1, hF, hM⟩
  -- behind the lines
  have fin : ∀ C S B' f t, FrC p M B' → PDc T B' p C S → N = lfin T C S → tK T S.2.2.2.2 = 1 → CT T f (.inr S.2.2.2.2) → Wp E (d + 9) m_Reader_read 132 [some (vP 3 0), some (vI (nI n)), some (vP 30 p), some (vI (nI 1)), some (vI (nI t))] [] (mC B' f) Q := by
    intro C S B' f t hF hD hN1 hk h
    unfold lfin at hN1
    rw [decide_eq_true hk] at hN1
    have hN1 : N = bif decide (S.1 = 0) then .inl (5, S.2.2.2.2) else .inr (C, S) := hN1
    have e5 : (mC B' f).1 31 p 5 = nI S.1 := hD.2.1.1
    have e8 := hD.2.1.2
    refine go ok_Reader_read [] 60 ?_
    refine And.intro (fun e => absurd e (by decide)) (fun _ => ?_)
    refine qLt rfl e5 (by omega) (by omega) (fun e => ?_) (fun e => ?_)
    · rw [decide_eq_false (show ¬ S.1 = 0 by omega)] at hN1
      refine And.intro (Or.inr rfl) ?_
      rw [← hQ]
      show RdC _ _ _ _ _ N
      rw [hN1]
      exact ⟨rfl, B', hF, ⟨f, rfl, h⟩, hD⟩
    · rw [decide_eq_true (show S.1 = 0 by omega)] at hN1
      refine xc d ok_Reader_faulty (c_faulty E d 5 h) (by omega) ?_
      rintro r M' ⟨rfl, hM⟩
      refine And.intro (fun _ => And.intro (Or.inl rfl) ?_) (fun e => absurd rfl e)
      exact bad _ hN1 _ hF _ hM
  -- behind a fault in a line
  have out : ∀ q B' t M', N = .inl q → FrC p M B' → CMe T B' (.inl q) M' → Wp E (d + 9) m_Reader_read 126 [some (vP 3 0), some (vI (nI n)), some (vP 30 p), some (vI (nI 0)), some (vI (nI t))] [] M' Q := by
    intro q B' t M' hN1 hF hM
    refine go ok_Reader_read [43] 60 ?_
    intro y hy
    refine go ok_Reader_read [132] 60 ?_
    have w132 : Wp E (d + 9) m_Reader_read 132 [some (vP 3 0), some (vI (nI n)), some (vP 30 p), some (vI (nI 0)), some (vI y)] [] M' Q := by
      refine go ok_Reader_read [] 60 ?_
      refine And.intro (fun _ => And.intro (Or.inl rfl) ?_) (fun e => absurd rfl e)
      exact bad q hN1 _ hF _ hM
    refine And.intro (fun _ => w132) (fun _ => ?_)
    exact And.intro (fun _ => w132) (fun e => absurd rfl e)
  have loop : ∀ m f1 C S B' t, C ≤ 10 → f1 ≤ m → T.2 < f1 + S.2.2.2.2 → t ≤ S.2.2.2.2 → FrC p M B' → PDc T B' p C S → N = bnd (lns T C f1 S) (lfin T C) → ∀ f, CT T f (.inr S.2.2.2.2) → Wp E (d + 9) m_Reader_read 43 [some (vP 3 0), some (vI (nI n)), some (vP 30 p), some (vI (nI 1)), some (vI (nI t))] [] (mC B' f) Q := by
    intro m
    induction m with
    | zero =>
      intro f1 C S B' t hC hf hb ht hF hD hN1 f h
      have := h.2.1
      omega
    | succ m ih =>
      intro f1 C S B' t hC hf hb ht hF hD hN1 f h
      have hbT := h.2.1
      obtain ⟨f0, rfl⟩ : ∃ f0, f1 = f0 + 1 := ⟨f1 - 1, by omega⟩
      rw [lns] at hN1
      have hT' := CTp_FrC hF hT
      have hck := ck_le (T := T) (b := S.2.2.2.2)
      have h3 : (mC B' f).1 3 0 3 = nI (ck (tK T S.2.2.2.2)) := h.2.2.2.1
      have endN : tK T S.2.2.2.2 = 1 → N = lfin T C S := by
        intro e
        have : isG T 59 (.inr S.2.2.2.2) = false := by
          unfold isG; dsimp only
          rw [decide_eq_false (show ¬ tK T S.2.2.2.2 = 4 by omega)]; rfl
        rw [this] at hN1
        exact hN1
      refine go ok_Reader_read [132, 126, 122] 60 ?_
      refine cLe (by omega) (by omega) (fun q => ?_) (fun q => ?_)
      · have e : S.2.2.2.2 = T.2 := by omega
        have hk : tK T S.2.2.2.2 = 1 := by unfold tK; rw [decide_eq_true e]; rfl
        exact fin C S B' f t hF hD (endN hk) hk h
      · refine And.intro (fun e => absurd e (by decide)) (fun _ => ?_)
        refine qEq h3 rfl (by omega) (by omega) (fun e => ?_) (fun e => ?_)
        · have hk := ck_0.mp e
          exact fin C S B' f t hF hD (endN hk) hk h
        · have hk : tK T S.2.2.2.2 ≠ 1 := fun z => e (ck_0.mpr z)
          have hgt := tX_gt (T := T) hk hbT t1
          refine xc (d + 2) ok_Reader_passSemicolon (c_passSemicolon E d hT' h) (by omega) ?_
          rintro r M2 k2
          cases hg : isG T 59 (.inr S.2.2.2.2) with
          | false =>
            rw [hg] at k2 hN1
            obtain ⟨rfl, hM⟩ := k2
            refine And.intro (fun e => absurd rfl e) (fun _ => And.intro (Or.inl rfl) ?_)
            have hN1 : N = lfin T C S := hN1
            unfold lfin at hN1
            rw [decide_eq_false hk] at hN1
            exact bad _ hN1 _ hF _ hM
          | true =>
            rw [hg] at k2 hN1
            obtain ⟨rfl, f2, rfl, k2⟩ := k2
            refine And.intro (fun _ => ?_) (fun e => absurd e (by decide))
            have hN1 : N = bnd (bnd (lnR T C (S.1, S.2.1, S.2.2.1, S.2.2.2.1, tX T S.2.2.2.2)) (lns T C f0)) (lfin T C) := hN1
            have hD2 : PDc T B' p C (S.1, S.2.1, S.2.2.1, S.2.2.2.1, tX T S.2.2.2.2) := hD
            -- behind a line
            have nextL : ∀ v M3, LnC T B' p C (some (vI v)) M3 (lnR T C (S.1, S.2.1, S.2.2.1, S.2.2.2.1, tX T S.2.2.2.2)) → Wp E (d + 9) m_Reader_read 126 [some (vP 3 0), some (vI (nI n)), some (vP 30 p), some (vI v), some (vI (nI t))] [] M3 Q := by
              intro v M3 k3
              cases hL : lnR T C (S.1, S.2.1, S.2.2.1, S.2.2.2.1, tX T S.2.2.2.2) with
              | inl q =>
                rw [hL] at k3 hN1
                obtain ⟨e3, B3, hF3, hM3⟩ := k3
                cases e3
                exact out q B3 t M3 hN1 (FrC_tr hF hF3) hM3
              | inr S3 =>
                rw [hL] at k3 hN1
                rw [bnd_inr] at hN1
                obtain ⟨e3, B3, hF3, ⟨f3, rfl, k3⟩, hD3⟩ := k3
                cases e3
                have hge := lnR_ge hL
                dsimp only at hge
                refine go ok_Reader_read [43] 60 ?_
                exact nm_r (nI_add _ _) (ih f0 C S3 B3 (t + 1) hC (by omega) (by omega) (by omega) (FrC_tr hF hF3) hD3 hN1 f3 k3)
            refine xq (d + 5) ok_Reader_isWord (c_isWord E d hS hT' 1 (by omega) k2) (by omega) ?_
            refine brF (fun c1 => ?_) (fun c1 => ?_)
            · refine xq (d + 5) ok_Reader_isWord (c_isWord E d hS hT' 7 (by omega) k2) (by omega) ?_
              refine brF (fun c2 => ?_) (fun c2 => ?_)
              · have w122 : ∀ k, lnR T C (S.1, S.2.1, S.2.2.1, S.2.2.2.1, tX T S.2.2.2.2) = .inl (k, tX T S.2.2.2.2) → Wp E (d + 9) m_Reader_read 122 [some (vP 3 0), some (vI (nI n)), some (vP 30 p), some (vI (nI 1)), some (vI (nI t))] [vI (nI k), vP 3 0] (mC B' f2) Q := by
                  intro k hL
                  refine go ok_Reader_read [126] 60 ?_
                  refine xc d ok_Reader_faulty (c_faulty E d k k2) (by omega) ?_
                  rintro r M3 ⟨rfl, hM⟩
                  refine nextL _ _ ?_
                  rw [hL]
                  exact ⟨rfl, B', FrC_rf _ _, hM⟩
                refine xq (d + 5) ok_Reader_isWord (c_isWord E d hS hT' 0 (by omega) k2) (by omega) ?_
                refine brF (fun c3 => ?_) (fun c3 => ?_)
                · refine w122 1 ?_
                  unfold lnR; dsimp only
                  rw [c1, c2, c3]; rfl
                · refine w122 3 ?_
                  unfold lnR; dsimp only
                  rw [c1, c2, c3]; rfl
              · refine xc (d + 8) ok_Reader_readBorder (c_readBorder E d hS hT' p C hC _ hD2 k2) (by omega) ?_
                rintro r M3 k3
                have eL : lnR T C (S.1, S.2.1, S.2.2.1, S.2.2.2.1, tX T S.2.2.2.2) = brd T C (S.1, S.2.1, S.2.2.1, S.2.2.2.1, tX T S.2.2.2.2) := by
                  unfold lnR; dsimp only
                  rw [c1, c2]; rfl
                rw [← eL] at k3
                have er : r = some (vI (nI 0)) ∨ r = some (vI (nI 1)) := by
                  revert k3
                  cases lnR T C (S.1, S.2.1, S.2.2.1, S.2.2.2.1, tX T S.2.2.2.2) with
                  | inl q => exact fun k3 => Or.inl k3.1
                  | inr q => exact fun k3 => Or.inr k3.1
                obtain rfl | rfl := er
                · exact nextL _ _ k3
                · exact nextL _ _ k3
            · refine xc (d + 8) ok_Reader_readStation (c_readStation E d hS hT' p C hC _ hD2 k2) (by omega) ?_
              rintro r M3 k3
              have eL : lnR T C (S.1, S.2.1, S.2.2.1, S.2.2.2.1, tX T S.2.2.2.2) = stn T C (S.1, S.2.1, S.2.2.1, S.2.2.2.1, tX T S.2.2.2.2) := by
                unfold lnR; dsimp only
                rw [c1]; rfl
              rw [← eL] at k3
              have er : r = some (vI (nI 0)) ∨ r = some (vI (nI 1)) := by
                revert k3
                cases lnR T C (S.1, S.2.1, S.2.2.1, S.2.2.2.1, tX T S.2.2.2.2) with
                | inl q => exact fun k3 => Or.inl k3.1
                | inr q => exact fun k3 => Or.inr k3.1
              obtain rfl | rfl := er
              · exact nextL _ _ k3
              · exact nextL _ _ k3
  -- from the first token on
  have w24 : ∀ f, f 1 = nI T.2 → f 2 = nI 0 → f 7 = nI 0 → Wp E (d + 9) m_Reader_read 24 [some (vP 3 0), some (vI (nI n)), some (vP 30 p), none, none] [] (mC (peM M p) f) Q := by
    intro f h1 h2 h7
    have hT' := CTp_FrC (FrC_peM (p := p)) hT
    refine go ok_Reader_read [43] 60 ?_
    refine xc (d + 1) ok_Reader_nextToken (c_nextToken0 E d (f := f) hT' 0 h1 h7 (Nat.zero_le _) h2) (by omega) ?_
    rintro r M2 ⟨rfl, f2, rfl, k2⟩
    refine xc (d + 7) ok_Reader_readChannels (c_readChannels E d hS hT' p k2) (by omega) ?_
    rintro r M3 k3
    unfold prs at hN
    cases hW : whl T 1 10 (ned T 0 (.inr (tB T 0))) with
    | inl q =>
      rw [hW] at k3 hN
      obtain ⟨rfl, hM⟩ := k3
      refine And.intro (fun e => absurd rfl e) (fun _ => And.intro (Or.inl rfl) ?_)
      exact bad q hN.symm _ FrC_peM _ hM
    | inr z =>
      rw [hW] at k3 hN
      rw [bnd_inr] at hN
      obtain ⟨rfl, f3, rfl, k3⟩ := k3
      obtain ⟨b0, -, ez, -, u1, u2⟩ := whl_inr hW
      have hC : z.1 ≤ 10 := by rw [ez]; exact u2
      have k3' : CT T f3 (.inr z.2) := k3
      have hzT := k3'.2.1
      refine And.intro (fun _ => ?_) (fun e => absurd e (by decide))
      refine loop 701 701 z.1 (0, 0, fun _ _ => nI 0, fun _ => 0, z.2) _ 0 hC (Nat.le_refl _) (by show T.2 < 701 + z.2; omega) (Nat.zero_le _) (FrC_sI FrC_peM (by unfold PZc; omega)) ?_ hN.symm f3 k3'
      refine ⟨⟨?_, ?_, ?_⟩, ⟨?_, by show (0 : Nat) ≤ 8; omega⟩, ⟨?_, by show (0 : Nat) ≤ 4; omega⟩, fun s hs => absurd hs (Nat.not_lt_zero _), fun s _ hs => ?_, fun s hs => absurd hs (Nat.not_lt_zero _), fun s _ hs => ?_⟩
      · rw [sI_at, if_pos ⟨rfl, rfl, rfl⟩]
      · unfold peM
        rw [sI_at, if_neg (by omega), setR_if, if_neg (by omega), sI_at, if_neg (by omega), setR_if, if_neg (by omega), sI_at, if_neg (by omega), sI_at, if_neg (by omega)]; exact h8
      · unfold peM
        rw [sI_at, if_neg (by omega), setR_if, if_neg (by omega), sI_at, if_neg (by omega), setR_if, if_neg (by omega), sI_at, if_neg (by omega), sI_at, if_neg (by omega)]; exact h4
      · unfold peM
        rw [sI_at, if_neg (by omega), setR_if, if_neg (by omega), sI_at, if_neg (by omega), setR_if, if_neg (by omega), sI_at, if_pos ⟨rfl, rfl, rfl⟩]
      · unfold peM
        rw [sI_at, if_neg (by omega), setR_if, if_neg (by omega), sI_at, if_pos ⟨rfl, rfl, rfl⟩]
      · unfold peM
        rw [sI_at, if_neg (by omega), setR_if, if_neg (by omega), sI_at, if_neg (by omega), setR_if, if_pos (by omega)]
      · unfold peM
        rw [sI_at, if_neg (by omega), setR_if, if_pos (by omega)]
  refine Mt.go ok_Reader_read [24] 60 rfl ?_
  have hpe := c_Pempty E d (sI (sI (sI (sI M 3 0 1 (nI n)) 3 0 2 (nI 0)) 3 0 7 (nI 0)) 3 0 8 (-(nI 1))) p (by rw [sI_at, if_neg (by omega), sI_at, if_neg (by omega), sI_at, if_neg (by omega), sI_at, if_neg (by omega)]; exact h8) (by rw [sI_at, if_neg (by omega), sI_at, if_neg (by omega), sI_at, if_neg (by omega), sI_at, if_neg (by omega)]; exact h4)
  refine xc (d + 1) ok_Plan_empty hpe (by omega) ?_
  rintro r M1 ⟨rfl, rfl⟩
  have := w24 (fU (fU (fU (fU (M.1 3 0) 1 (nI n)) 2 (nI 0)) 7 (nI 0)) 8 (-(nI 1))) (by rw [hn]; rfl) rfl rfl
  rw [← mC_peM, ← mC_sI (by omega) (by omega), ← mC_sI (by omega) (by omega), ← mC_sI (by omega) (by omega), ← mC_sI (by omega) (by omega), mC_self] at this
  exact this
end CR6
