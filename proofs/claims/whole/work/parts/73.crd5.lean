/-! the class: a line read -/
theorem setR_if (M : Me) (i r lo n : Nat) (f : Nat → Int32) (a b c : Nat) : (setR M i r lo n f).1 a b c = if a = i ∧ b = r ∧ lo ≤ c ∧ c < lo + n then f (c - lo) else M.1 a b c := by
  by_cases h : a = i ∧ b = r ∧ lo ≤ c ∧ c < lo + n
  · rw [if_pos h]
    obtain ⟨rfl, rfl, h3, h4⟩ := h
    have := setR_at (M := M) (i := a) (r := b) (lo := lo) (n := n) (f := f) (k := c - lo) (by omega)
    rwa [show lo + (c - lo) = c by omega] at this
  · rw [if_neg h, setR_out h]
/-- what was read, in the class -/
def PDc (T : TT) (B : Me) (p C : Nat) (S : SP) : Prop := (B.1 30 p 10 = nI C ∧ B.1 31 p 4 = nI 8 ∧ B.1 36 p 4 = nI 4) ∧ (B.1 31 p 5 = nI S.1 ∧ S.1 ≤ 8) ∧ (B.1 36 p 5 = nI S.2.1 ∧ S.2.1 ≤ 4) ∧ (∀ s, s < S.1 → ((B.1 32 p s = S.2.2.1 0 s ∧ B.1 33 p s = S.2.2.1 1 s ∧ B.1 34 p s = S.2.2.1 2 s) ∧ (B.1 41 p s = S.2.2.1 3 s ∧ B.1 42 p s = S.2.2.1 4 s ∧ B.1 35 p s = S.2.2.1 5 s)) ∧ NmC T B p s (S.2.2.2.1 s)) ∧ (∀ s, S.1 ≤ s → s < 8 → B.1 35 p s = nI 0) ∧ (∀ b, b < S.2.1 → (B.1 37 p b = S.2.2.1 0 (8 + b) ∧ B.1 38 p b = S.2.2.1 1 (8 + b) ∧ B.1 39 p b = S.2.2.1 2 (8 + b)) ∧ B.1 40 p b = S.2.2.1 6 b) ∧ ∀ b, S.2.1 ≤ b → b < 4 → B.1 40 p b = nI 0
def stC (T : TT) (B : Me) (p st b1 x y z c w : Nat) : Me := sI (sI (plC (nmB T B p st b1 (tL T b1)) 31 p st x y z) 41 p st (nI c)) 42 p st (nI w)
theorem FrC_plC {p : Nat} {B B' : Me} {i k x y z : Nat} (h : FrC p B B') (hi : i = 31 ∨ i = 36) : FrC p B (plC B' i p k x y z) := by
  unfold plC
  refine FrC_sI (FrC_sI (FrC_sI h ?_) ?_) ?_ <;> (unfold PZc; omega)
theorem FrC_stC {T : TT} {B : Me} {p st b1 x y z c w : Nat} (hs : st < 8) : FrC p B (stC T B p st b1 x y z c w) := by
  unfold stC
  refine FrC_sI (FrC_sI (FrC_plC (FrC_nmB hs) (Or.inl rfl)) ?_) ?_ <;> (unfold PZc; omega)
theorem plN_o {T : TT} {B : Me} {p st b1 n x y z a r k : Nat} (h : a = 30 ∨ a = 31 ∨ a = 35) : (plC (nmB T B p st b1 n) 31 p st x y z).1 a r k = B.1 a r k := by
  unfold plC nmB
  repeat first | rw [sI_at, if_neg (by omega)] | rw [setR_if, if_neg (by omega)]
theorem stC_o {T : TT} {B : Me} {p st b1 x y z c w a r k : Nat} (h : a = 30 ∨ a = 31 ∨ a = 35) : (stC T B p st b1 x y z c w).1 a r k = B.1 a r k := by
  unfold stC
  rw [sI_at, if_neg (by omega), sI_at, if_neg (by omega), plN_o h]
theorem PDc_st {T : TT} {B : Me} {p C st bd : Nat} {P : Nat → Nat → Int32} {nb : Nat → Nat} {b0 : Nat} (h : PDc T B p C (st, bd, P, nb, b0)) (hst : st < 8) (b1 b' x y z c w : Nat) (v : Int32) (hk : tK T b1 = 2) : PDc T (sI (sI (stC T B p st b1 x y z c w) 35 p st v) 31 p 5 (nI st + nI 1)) p C (st + 1, bd, stP P st (nI x) (nI y) (nI z) (nI c) (nI w) v, nbU nb st b1, b') := by
  obtain ⟨⟨h1, h1', h1''⟩, ⟨h2, h2'⟩, ⟨h3, h3'⟩, h4, h5, h6, h7⟩ := h
  dsimp only at h1 h2 h2' h3 h3' h4 h5 h6 h7
  obtain ⟨l1, l2, l3, l4⟩ := tW_lt2 hk
  unfold stC plC nmB
  refine ⟨⟨?_, ?_, ?_⟩, ⟨?_, by show st + 1 ≤ 8; omega⟩, ⟨?_, h3'⟩, fun s hs => ?_, fun s hs hs8 => ?_, fun b hb => ⟨⟨?_, ?_, ?_⟩, ?_⟩, fun b hb hb4 => ?_⟩
  · repeat first | rw [sI_at, if_neg (by omega)] | rw [setR_if, if_neg (by omega)]
    exact h1
  · repeat first | rw [sI_at, if_neg (by omega)] | rw [setR_if, if_neg (by omega)]
    exact h1'
  · repeat first | rw [sI_at, if_neg (by omega)] | rw [setR_if, if_neg (by omega)]
    exact h1''
  · rw [sI_at, if_pos (by omega), nI_add]
  · repeat first | rw [sI_at, if_neg (by omega)] | rw [setR_if, if_neg (by omega)]
    exact h3
  · dsimp only at hs ⊢
    rcases Nat.lt_or_ge s st with e | e
    · obtain ⟨⟨⟨q1, q2, q3⟩, q4, q5, q6⟩, n1, n2, n3⟩ := h4 s e
      rw [stP_o (Or.inl (by omega)), stP_o (Or.inl (by omega)), stP_o (Or.inl (by omega)), stP_o (Or.inl (by omega)), stP_o (Or.inl (by omega)), stP_o (Or.inl (by omega)), nbU_o (by omega)]
      refine ⟨⟨⟨?_, ?_, ?_⟩, ?_, ?_, ?_⟩, ?_, n2, fun i hi => ?_⟩
      · repeat first | rw [sI_at, if_neg (by omega)] | rw [setR_if, if_neg (by omega)]
        exact q1
      · repeat first | rw [sI_at, if_neg (by omega)] | rw [setR_if, if_neg (by omega)]
        exact q2
      · repeat first | rw [sI_at, if_neg (by omega)] | rw [setR_if, if_neg (by omega)]
        exact q3
      · repeat first | rw [sI_at, if_neg (by omega)] | rw [setR_if, if_neg (by omega)]
        exact q4
      · repeat first | rw [sI_at, if_neg (by omega)] | rw [setR_if, if_neg (by omega)]
        exact q5
      · repeat first | rw [sI_at, if_neg (by omega)] | rw [setR_if, if_neg (by omega)]
        exact q6
      · repeat first | rw [sI_at, if_neg (by omega)] | rw [setR_if, if_neg (by omega)]
        exact n1
      · repeat first | rw [sI_at, if_neg (by omega)] | rw [setR_if, if_neg (by omega)]
        exact n3 i hi
    · have e : s = st := by omega
      subst e
      rw [stP_s (by omega), stP_s (by omega), stP_s (by omega), stP_s (by omega), stP_s (by omega), stP_s (by omega), nbU_s]
      refine ⟨⟨⟨?_, ?_, ?_⟩, ?_, ?_, ?_⟩, ?_, hk, fun i hi => ?_⟩
      · repeat first | rw [sI_at, if_neg (by omega)] | rw [sI_at, if_pos (by omega)]
        rfl
      · repeat first | rw [sI_at, if_neg (by omega)] | rw [sI_at, if_pos (by omega)]
        rfl
      · repeat first | rw [sI_at, if_neg (by omega)] | rw [sI_at, if_pos (by omega)]
        rfl
      · repeat first | rw [sI_at, if_neg (by omega)] | rw [sI_at, if_pos (by omega)]
        rfl
      · repeat first | rw [sI_at, if_neg (by omega)] | rw [sI_at, if_pos (by omega)]
        rfl
      · repeat first | rw [sI_at, if_neg (by omega)] | rw [sI_at, if_pos (by omega)]
        rfl
      · repeat first | rw [sI_at, if_neg (by omega)] | rw [setR_if, if_neg (by omega)]
        rw [sI_at, if_pos (by omega)]
      · repeat first | rw [sI_at, if_neg (by omega)]
        rw [setR_if, if_pos (by omega), Nat.sub_zero]
  · dsimp only at hs
    repeat first | rw [sI_at, if_neg (by omega)] | rw [setR_if, if_neg (by omega)]
    exact h5 s (by omega) hs8
  · dsimp only
    rw [stP_o (Or.inl (by omega))]
    repeat first | rw [sI_at, if_neg (by omega)] | rw [setR_if, if_neg (by omega)]
    exact (h6 b hb).1.1
  · dsimp only
    rw [stP_o (Or.inl (by omega))]
    repeat first | rw [sI_at, if_neg (by omega)] | rw [setR_if, if_neg (by omega)]
    exact (h6 b hb).1.2.1
  · dsimp only
    rw [stP_o (Or.inl (by omega))]
    repeat first | rw [sI_at, if_neg (by omega)] | rw [setR_if, if_neg (by omega)]
    exact (h6 b hb).1.2.2
  · dsimp only
    rw [stP_o (Or.inr (by omega))]
    repeat first | rw [sI_at, if_neg (by omega)] | rw [setR_if, if_neg (by omega)]
    exact (h6 b hb).2
  · repeat first | rw [sI_at, if_neg (by omega)] | rw [setR_if, if_neg (by omega)]
    exact h7 b hb hb4
theorem PDc_bd {T : TT} {B : Me} {p C st bd : Nat} {P : Nat → Nat → Int32} {nb : Nat → Nat} {b0 : Nat} (h : PDc T B p C (st, bd, P, nb, b0)) (hbd : bd < 4) (b' x y z : Nat) (v : Int32) : PDc T (sI (sI (plC B 36 p bd x y z) 40 p bd v) 36 p 5 (nI bd + nI 1)) p C (st, bd + 1, bdP P bd (nI x) (nI y) (nI z) v, nb, b') := by
  obtain ⟨⟨h1, h1', h1''⟩, ⟨h2, h2'⟩, ⟨h3, h3'⟩, h4, h5, h6, h7⟩ := h
  dsimp only at h1 h2 h2' h3 h3' h4 h5 h6 h7
  unfold plC
  refine ⟨⟨?_, ?_, ?_⟩, ⟨?_, h2'⟩, ⟨?_, by show bd + 1 ≤ 4; omega⟩, fun s hs => ?_, fun s hs hs8 => ?_, fun b hb => ?_, fun b hb hb4 => ?_⟩
  · repeat first | rw [sI_at, if_neg (by omega)]
    exact h1
  · repeat first | rw [sI_at, if_neg (by omega)]
    exact h1'
  · repeat first | rw [sI_at, if_neg (by omega)]
    exact h1''
  · repeat first | rw [sI_at, if_neg (by omega)]
    exact h2
  · rw [sI_at, if_pos (by omega), nI_add]
  · dsimp only at hs ⊢
    obtain ⟨⟨⟨q1, q2, q3⟩, q4, q5, q6⟩, n1, n2, n3⟩ := h4 s hs
    rw [bdP_o (by omega) (by omega), bdP_o (by omega) (by omega), bdP_o (by omega) (by omega), bdP_o (by omega) (by omega), bdP_o (by omega) (by omega), bdP_o (by omega) (by omega)]
    refine ⟨⟨⟨?_, ?_, ?_⟩, ?_, ?_, ?_⟩, ?_, n2, fun i hi => ?_⟩
    · repeat first | rw [sI_at, if_neg (by omega)]
      exact q1
    · repeat first | rw [sI_at, if_neg (by omega)]
      exact q2
    · repeat first | rw [sI_at, if_neg (by omega)]
      exact q3
    · repeat first | rw [sI_at, if_neg (by omega)]
      exact q4
    · repeat first | rw [sI_at, if_neg (by omega)]
      exact q5
    · repeat first | rw [sI_at, if_neg (by omega)]
      exact q6
    · repeat first | rw [sI_at, if_neg (by omega)]
      exact n1
    · repeat first | rw [sI_at, if_neg (by omega)]
      exact n3 i hi
  · repeat first | rw [sI_at, if_neg (by omega)]
    exact h5 s hs hs8
  · dsimp only at hb ⊢
    rcases Nat.lt_or_ge b bd with e | e
    · rw [bdP_o (by omega) (by omega), bdP_o (by omega) (by omega), bdP_o (by omega) (by omega), bdP_o (by omega) (by omega)]
      refine ⟨⟨?_, ?_, ?_⟩, ?_⟩
      · repeat first | rw [sI_at, if_neg (by omega)]
        exact (h6 b e).1.1
      · repeat first | rw [sI_at, if_neg (by omega)]
        exact (h6 b e).1.2.1
      · repeat first | rw [sI_at, if_neg (by omega)]
        exact (h6 b e).1.2.2
      · repeat first | rw [sI_at, if_neg (by omega)]
        exact (h6 b e).2
    · have e : b = bd := by omega
      subst e
      rw [bdP_p (by omega), bdP_p (by omega), bdP_p (by omega), bdP_s]
      refine ⟨⟨?_, ?_, ?_⟩, ?_⟩
      · repeat first | rw [sI_at, if_neg (by omega)] | rw [sI_at, if_pos (by omega)]
        rfl
      · repeat first | rw [sI_at, if_neg (by omega)] | rw [sI_at, if_pos (by omega)]
        rfl
      · repeat first | rw [sI_at, if_neg (by omega)] | rw [sI_at, if_pos (by omega)]
        rfl
      · rw [sI_at, if_neg (by omega), sI_at, if_pos (by omega)]
  · dsimp only at hb
    repeat first | rw [sI_at, if_neg (by omega)]
    exact h7 b (by omega) hb4
def LnC (T : TT) (B : Me) (p C : Nat) (r : Option AV) (M' : Me) : FL ⊕ SP → Prop
  | .inl q => r = some (vI (nI 0)) ∧ ∃ B', FrC p B B' ∧ CMe T B' (.inl q) M'
  | .inr S => r = some (vI (nI 1)) ∧ ∃ B', FrC p B B' ∧ CMe T B' (.inr S.2.2.2.2) M' ∧ PDc T B' p C S
section CR5
variable (E : EV) (d : Nat) {T : TT} {B : Me}
theorem c_readStation {f : Nat → Int32} (hS : StrOK E) (hT : CTp T B) (p C : Nat) (hC : C ≤ 10) (S : SP) (hD : PDc T B p C S) (h : CT T f (.inr S.2.2.2.2)) : Mt E (d + 8) m_Reader_readStation [vP 3 0, vP 30 p] (mC B f) (fun r M' => LnC T B p C r M' (stn T C S)) := by
  obtain ⟨st, bd, P, nb, b⟩ := S
  generalize hN : stn T C (st, bd, P, nb, b) = N
  generalize hQ : (fun r M' => LnC T B p C r M' N : Option AV → Me → Prop) = Q
  obtain ⟨⟨d1, d1', d1''⟩, ⟨d2, d2'⟩, ⟨d3, d3'⟩, d4, d5, d6, d7⟩ := id hD
  dsimp only at d1 d2 d2' d3 d3' d4 d5 d6 d7 h
  have bad : ∀ q, N = .inl q → ∀ B1, FrC p B B1 → ∀ M', CMe T B1 (.inl q) M' → Q (some (vI (nI 0))) M' := by
    intro q e B1 hF M' hM
    rw [← hQ]
    show LnC _ _ _ _ _ _ N
    rw [e]
    exact ⟨rfl, B1, hF, hM⟩
  have f20 : st < 8 → ∀ v, v = nI st → Wp E (d + 8) m_Reader_readStation 20 [some (vP 3 0), some (vP 30 p), some (vI v)] [] (mC B f) Q := by
    rintro hst v rfl
    -- the name
    have hN2 : N = bnd (nmR T st nb (tX T b)) fun b2 => bnd (plcR T (.inr b2)) fun b4 => bnd (stT T C (.inr b4)) fun z => .inr (st + 1, bd, stP P st (nI (plX T b2)) (nI (plY T b2)) (nI (plZ T b2)) (nI z.1) (nI z.2.1) z.2.2.1, nbU nb st (tX T b), z.2.2.2) := by
      rw [← hN]
      unfold stn nmR
      dsimp only
      rw [decide_eq_false (show ¬ st = 8 by omega), cond_false]
      show (bif !decide (tK T (tX T b) = 2) || own T (.inr (tX T b)) then _ else _) = _
      cases (!decide (tK T (tX T b) = 2) || own T (.inr (tX T b)))
      · rw [cond_false, cond_false]
        cases dupN T st nb (tX T b) <;> rfl
      · rfl
    clear hN
    generalize hb1 : tX T b = b1 at hN2
    refine go ok_Reader_readStation [47] 60 ?_
    refine xc (d + 1) ok_Reader_nextToken (c_nextToken E d hT h) (by omega) ?_
    rintro r M1 ⟨rfl, f1, rfl, k1⟩
    rw [hb1] at k1
    refine xc (d + 7) ok_Reader_readName (c_readName E d hS hT p st hst nb (fun t ht => (d4 t ht).2) k1) (by omega) ?_
    rintro r M2 k2
    cases hnm : nmR T st nb b1 with
    | inl q =>
      rw [hnm] at k2 hN2
      obtain ⟨rfl, B1, hF1, hM⟩ := k2
      refine And.intro (fun _ => And.intro (Or.inl rfl) ?_) (fun e => absurd rfl e)
      exact bad q hN2 _ hF1 _ hM
    | inr b2 =>
      rw [hnm] at k2 hN2
      rw [bnd_inr] at hN2
      have hk1 : tK T b1 = 2 := by
        unfold nmR at hnm
        cases hc : decide (tK T b1 = 2) with
        | true => exact of_decide_eq_true hc
        | false => rw [hc] at hnm; cases hnm
      obtain ⟨rfl, f2, rfl, k2⟩ := k2
      refine And.intro (fun e => absurd e (by decide)) (fun _ => ?_)
      -- the place
      have hF2 : FrC p B (nmB T B p st b1 (tL T b1)) := FrC_nmB hst
      have hm2 : (nmB T B p st b1 (tL T b1)).1 31 p 4 = nI 8 := by rw [hF2.1 31 p 4 (by unfold PZc; omega)]; exact d1'
      refine xc (d + 7) ok_Reader_readPlace (c_readPlace E d hS (CTp_FrC hF2 hT) 31 p 8 st (by omega) hm2 hst k2) (by omega) ?_
      rintro r M3 k3
      cases hpl : plcR T (.inr b2) with
      | inl q =>
        rw [hpl] at k3 hN2
        obtain ⟨rfl, B1, hF1, hM⟩ := k3
        refine And.intro (fun e => absurd rfl e) (fun _ => And.intro (Or.inl rfl) ?_)
        exact bad q hN2 _ (FrC_tr hF2 hF1) _ hM
      | inr b4 =>
        rw [hpl] at k3 hN2
        rw [bnd_inr] at hN2
        obtain ⟨rfl, f3, rfl, k3⟩ := k3
        refine And.intro (fun _ => ?_) (fun e => absurd e (by decide))
        generalize plX T b2 = x at *
        generalize plY T b2 = y at *
        generalize plZ T b2 = z at *
        clear hpl hnm k2 k1
        -- the end
        have f139 : ∀ b6 v c w f6, N = .inr (st + 1, bd, stP P st (nI x) (nI y) (nI z) (nI c) (nI w) v, nbU nb st b1, b6) → CT T f6 (.inr b6) → Wp E (d + 8) m_Reader_readStation 139 [some (vP 3 0), some (vP 30 p), some (vI (nI st))] [] (mC (sI (stC T B p st b1 x y z c w) 35 p st v) f6) Q := by
          intro b6 v c w f6 hN6 k6
          have e5 : (mC (sI (stC T B p st b1 x y z c w) 35 p st v) f6).1 31 p 5 = nI st := by
            rw [mC_o (by omega), sI_at, if_neg (by omega), stC_o (by omega)]; exact d2
          refine go ok_Reader_readStation [] 60 ?_
          refine And.intro (Or.inr rfl) ?_
          rw [← hQ]
          show LnC _ _ _ _ _ _ N
          rw [hN6]
          refine ⟨rfl, sI (sI (stC T B p st b1 x y z c w) 35 p st v) 31 p 5 (nI st + nI 1), ?_, ⟨f6, ?_, k6⟩, PDc_st hD hst b1 b6 x y z c w v hk1⟩
          · refine FrC_sI (FrC_sI (FrC_stC hst) ?_) ?_ <;> (unfold PZc; omega)
          · rw [e5]
            exact mC_sIo (by omega)
        -- the list
        have f112 : ∀ b5 c w f5, N = bnd (bnd (notO T C b5) fun z7 => .inr (c, w, z7.1, z7.2)) (fun z' => .inr (st + 1, bd, stP P st (nI x) (nI y) (nI z) (nI z'.1) (nI z'.2.1) z'.2.2.1, nbU nb st b1, z'.2.2.2)) → CT T f5 (.inr b5) → Wp E (d + 8) m_Reader_readStation 112 [some (vP 3 0), some (vP 30 p), some (vI (nI st))] [] (mC (stC T B p st b1 x y z c w) f5) Q := by
          intro b5 c w f5 hN5 k5
          have hF5 : FrC p B (stC T B p st b1 x y z c w) := FrC_stC hst
          have hT5 := CTp_FrC hF5 hT
          have h35 : (stC T B p st b1 x y z c w).1 35 p st = nI 0 := by rw [stC_o (by omega)]; exact d5 st (Nat.le_refl _) hst
          have h10 : (mC (stC T B p st b1 x y z c w) f5).1 30 p 10 = nI C := by rw [mC_o (by omega), stC_o (by omega)]; exact d1
          have h314 : (stC T B p st b1 x y z c w).1 31 p 4 = nI 8 := by rw [stC_o (by omega)]; exact d1'
          refine go ok_Reader_readStation [139] 60 ?_
          refine xq (d + 5) ok_Reader_isWord (c_isWord E d hS hT5 6 (by omega) k5) (by omega) ?_
          refine brF (fun e => ?_) (fun e => ?_)
          · unfold notO at hN5
            rw [e] at hN5
            have := f139 b5 (nI 0) c w f5 hN5 k5
            rw [sI_self h35] at this
            exact this
          · unfold notO at hN5
            rw [e] at hN5
            have hx := c_readNot E d hS hT5 31 p 8 st C (by omega) h314 hst hC h35 k5
            unfold notR at hx
            rw [e, cond_true, ← h10] at hx
            refine xc (d + 7) ok_Reader_readNot hx (by omega) ?_
            rintro r M6 k6
            cases hn : notL T C 701 (nI 0) (tX T b5) with
            | inl q =>
              rw [hn] at k6
              rw [cond_true, hn] at hN5
              obtain ⟨rfl, B1, hF1, hM⟩ := k6
              refine And.intro (fun e => absurd rfl e) (fun _ => And.intro (Or.inl rfl) ?_)
              exact bad q hN5 _ (FrC_tr hF5 hF1) _ hM
            | inr z7 =>
              rw [hn] at k6
              rw [cond_true, hn] at hN5
              obtain ⟨rfl, f6, rfl, k6⟩ := k6
              refine And.intro (fun _ => ?_) (fun e => absurd e (by decide))
              exact f139 z7.2 z7.1 c w f6 hN5 k6
        -- the worth
        have f80 : ∀ b5 c f5, N = bnd (bnd (whl T 0 999 (ned T 5 (.inr b5))) fun z6 => bnd (notO T C z6.2) fun z7 => .inr (c, z6.1, z7.1, z7.2)) (fun z' => .inr (st + 1, bd, stP P st (nI x) (nI y) (nI z) (nI z'.1) (nI z'.2.1) z'.2.2.1, nbU nb st b1, z'.2.2.2)) → CT T f5 (.inr b5) → Wp E (d + 8) m_Reader_readStation 80 [some (vP 3 0), some (vP 30 p), some (vI (nI st))] [] (mC (sI (plC (nmB T B p st b1 (tL T b1)) 31 p st x y z) 41 p st (nI c)) f5) Q := by
          intro b5 c f5 hN5 k5
          have hF5 : FrC p B (sI (plC (nmB T B p st b1 (tL T b1)) 31 p st x y z) 41 p st (nI c)) := FrC_sI (FrC_plC hF2 (Or.inl rfl)) (by unfold PZc; omega)
          have hT5 := CTp_FrC hF5 hT
          refine go ok_Reader_readStation [112] 60 ?_
          refine xc (d + 6) ok_Reader_passWord (c_passWord E d hS hT5 5 (by omega) k5) (by omega) ?_
          rintro r M6 k6
          cases hw6 : ned T 5 (.inr b5) with
          | inl q =>
            rw [hw6] at k6 hN5
            obtain ⟨rfl, hM⟩ := k6
            refine And.intro (fun _ => And.intro (Or.inl rfl) ?_) (fun e => absurd rfl e)
            exact bad q hN5 _ hF5 _ hM
          | inr b6 =>
            rw [hw6] at k6 hN5
            obtain ⟨rfl, f6, rfl, k6⟩ := k6
            refine And.intro (fun e => absurd e (by decide)) (fun _ => ?_)
            refine xc (d + 1) ok_Reader_isWhole (c_isWhole E d 0 999 (by omega) (by omega) k6) (by omega) ?_
            rintro r M7 k7
            cases hw7 : whl T 0 999 (.inr b6) with
            | inl q =>
              rw [hw7] at k7 hN5
              obtain ⟨rfl, hM⟩ := k7
              refine And.intro (fun e => absurd rfl e) (fun _ => And.intro (Or.inl rfl) ?_)
              exact bad q hN5 _ hF5 _ hM
            | inr z7 =>
              rw [hw7] at k7 hN5
              obtain ⟨b0, e0, ez, kk, lo, hi'⟩ := whl_inr hw7
              cases e0
              subst ez
              obtain ⟨rfl, rfl⟩ := k7
              refine And.intro (fun _ => ?_) (fun e => absurd e (by decide))
              refine xc (d + 2) ok_Reader_taken (c_taken E d hT5 k6 kk) (by omega) ?_
              rintro r M8 ⟨rfl, f8, rfl, k8⟩
              refine ix st hst rfl ?_
              have := f112 (tX T b6) c (tN3 T b6) f8 hN5 k8
              unfold stC at this
              rw [← mC_sIo (by omega)] at this
              exact this
        -- the channel
        have hF3 : FrC p B (plC (nmB T B p st b1 (tL T b1)) 31 p st x y z) := FrC_plC hF2 (Or.inl rfl)
        have hT3 := CTp_FrC hF3 hT
        unfold stT at hN2
        refine go ok_Reader_readStation [80] 60 ?_
        refine xc (d + 6) ok_Reader_passWord (c_passWord E d hS hT3 4 (by omega) k3) (by omega) ?_
        rintro r M4 k4
        cases hw4 : ned T 4 (.inr b4) with
        | inl q =>
          rw [hw4] at hN2 k4
          obtain ⟨rfl, hM⟩ := k4
          refine And.intro (fun _ => And.intro (Or.inl rfl) ?_) (fun e => absurd rfl e)
          exact bad q hN2 _ hF3 _ hM
        | inr b5 =>
          rw [hw4] at hN2 k4
          obtain ⟨rfl, f4, rfl, k4⟩ := k4
          have e10 : (mC (plC (nmB T B p st b1 (tL T b1)) 31 p st x y z) f4).1 30 p 10 = nI C := by rw [mC_o (by omega), plN_o (by omega)]; exact d1
          refine And.intro (fun e => absurd e (by decide)) (fun _ => ?_)
          have hx := c_isWhole E d (B := plC (nmB T B p st b1 (tL T b1)) 31 p st x y z) 1 C (by omega) (by omega) k4
          rw [← e10] at hx
          refine xc (d + 1) ok_Reader_isWhole hx (by omega) ?_
          rintro r M5 k5
          cases hw5 : whl T 1 C (.inr b5) with
          | inl q =>
            rw [hw5] at k5 hN2
            obtain ⟨rfl, hM⟩ := k5
            refine And.intro (fun e => absurd rfl e) (fun _ => And.intro (Or.inl rfl) ?_)
            exact bad q hN2 _ hF3 _ hM
          | inr z5 =>
            rw [hw5] at k5 hN2
            obtain ⟨b0, e0, ez, kk, lo, hi'⟩ := whl_inr hw5
            cases e0
            subst ez
            obtain ⟨rfl, rfl⟩ := k5
            refine And.intro (fun _ => ?_) (fun e => absurd e (by decide))
            refine xc (d + 2) ok_Reader_taken (c_taken E d hT3 k4 kk) (by omega) ?_
            rintro r M6 ⟨rfl, f6, rfl, k6⟩
            refine ix st hst rfl ?_
            have := f80 (tX T b5) (tN3 T b5) f6 hN2 k6
            rw [← mC_sIo (by omega)] at this
            exact this
  refine Mt.go ok_Reader_readStation [20] 60 rfl ?_
  refine qLt (show (mC B f).1 31 p 5 = nI st from d2) rfl (by omega) (by omega) (fun hst => f20 hst _ d2) (fun hst => ?_)
  have hN : N = .inl (4, b) := by
    rw [← hN]
    unfold stn
    dsimp only
    rw [decide_eq_true (show st = 8 by omega)]
    rfl
  refine xc d ok_Reader_faulty (c_faulty E d 4 h) (by omega) ?_
  rintro r M' ⟨rfl, hM⟩
  refine And.intro (Or.inl rfl) ?_
  exact bad _ hN _ (FrC_rf _ _) _ hM
end CR5
