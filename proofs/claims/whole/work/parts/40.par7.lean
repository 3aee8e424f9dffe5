/-! the reference: becomes, text -/
def setL (M : Me) (i r n : Nat) (f : Nat → Int64) : Me := (M.1, fun a b c => cond (Nat.beq a i && (Nat.beq b r && Nat.blt c n)) (f c) (M.2.1 a b c), M.2.2)
theorem setL_at {M : Me} {i r n : Nat} {f : Nat → Int64} {k : Nat} (h : k < n) : (setL M i r n f).2.1 i r k = f k := by
  show cond (Nat.beq i i && (Nat.beq r r && Nat.blt k n)) (f k) _ = _
  have h1 : Nat.beq i i = true := Nat.beq_eq.mpr rfl
  have h2 : Nat.beq r r = true := Nat.beq_eq.mpr rfl
  have h4 : Nat.blt k n = true := Nat.blt_eq.mpr h
  rw [h1, h2, h4]; rfl
theorem setL_out {M : Me} {i r n : Nat} {f : Nat → Int64} {a b c : Nat} (h : ¬ (a = i ∧ b = r ∧ c < n)) : (setL M i r n f).2.1 a b c = M.2.1 a b c := by
  show cond _ _ _ = _
  cases e : (Nat.beq a i && (Nat.beq b r && Nat.blt c n)) with
  | false => rfl
  | true =>
    simp only [Bool.and_eq_true] at e
    exact absurd ⟨Nat.beq_eq.mp e.1, Nat.beq_eq.mp e.2.1, Nat.blt_eq.mp e.2.2⟩ h
theorem setL_0 (M : Me) (i r : Nat) (f : Nat → Int64) : setL M i r 0 f = M := by
  refine Prod.ext rfl (Prod.ext ?_ rfl)
  funext a b c
  exact setL_out (by omega)
theorem setL_step (M : Me) (i r k : Nat) (f : Nat → Int64) : sJ (setL M i r k f) i r k (f k) = setL M i r (k + 1) f := by
  refine Prod.ext rfl (Prod.ext ?_ rfl)
  funext a b c
  show (sJ (setL M i r k f) i r k (f k)).2.1 a b c = _
  rw [sJ_at]
  by_cases h : a = i ∧ b = r ∧ c = k
  · obtain ⟨rfl, rfl, rfl⟩ := h
    rw [if_pos ⟨rfl, rfl, rfl⟩, setL_at (by omega)]
  · rw [if_neg h]
    by_cases h2 : a = i ∧ b = r ∧ c < k
    · obtain ⟨rfl, rfl, h3⟩ := h2
      rw [setL_at h3, setL_at (by omega)]
    · rw [setL_out h2, setL_out (fun z => by
        obtain ⟨z1, z2, z3⟩ := z
        by_cases h5 : c = k
        · exact h ⟨z1, z2, h5⟩
        · exact h2 ⟨z1, z2, by omega⟩)]
def bc1 (N : Me) : Me := sI (sI (sI N 60 0 17 (N.1 60 0 20)) 60 0 18 (N.1 60 0 21)) 60 0 19 (N.1 60 0 22)
def bc2 (N : Me) : Me := setR (bc1 N) 62 0 0 36 (fun k => N.1 62 0 (36 + k))
def bc3 (N : Me) : Me := setR (bc2 N) 63 0 0 4 (fun k => N.1 63 0 (4 + k))
def bc4 (N : Me) : Me := setL (bc3 N) 64 0 8 (fun k => N.2.1 64 0 (8 + k))
def bc5 (N : Me) : Me := setR (bc4 N) 65 0 0 26 (fun k => N.1 66 0 k)
def bc6 (N : Me) : Me := sI (sI (sI (sI (bc5 N) 60 0 29 (nI 0)) 69 0 0 (nI 0)) 69 0 1 (nI 0)) 60 0 23 (nI 1)
def lns (T : TT) (C : Nat) : Nat → SP → FL ⊕ SP
  | 0, S => .inr S
  | f + 1, S => bif isG T 59 (.inr S.2.2.2.2) then bnd (lnR T C (S.1, S.2.1, S.2.2.1, S.2.2.2.1, tX T S.2.2.2.2)) (lns T C f) else .inr S
def lfin (T : TT) (C : Nat) (S : SP) : FL ⊕ (Nat × SP) := bif !decide (tK T S.2.2.2.2 = 1) then .inl (1, S.2.2.2.2) else bif decide (S.1 = 0) then .inl (5, S.2.2.2.2) else .inr (C, S)
def prs (T : TT) : FL ⊕ (Nat × SP) := bnd (whl T 1 10 (ned T 0 (.inr (tB T 0)))) fun z => bnd (lns T z.1 701 (0, 0, fun _ _ => nI 0, fun _ => 0, z.2)) (lfin T z.1)
/-- ahead of the reading -/
def txM (M : Me) (n : Nat) : Me := setR (sI (sI (sI (sI (sI (sI (M0 M) 60 0 5 (nI n)) 60 0 4 (nI 0)) 60 0 6 (nI 0)) 60 0 7 (nI 0)) 60 0 21 (nI 0)) 60 0 22 (nI 0)) 66 0 0 26 (fun _ => nI 0)
def tpT (M : Me) (n : Nat) : TT := (fun k => if k < 700 then tN (M.1 61 0 k) else 0, n)
def RTb (M : Me) : Prop := ∀ k, k < 700 → M.1 61 0 k = nI (tN (M.1 61 0 k)) ∧ tN (M.1 61 0 k) < 256
def TxP (T : TT) (B : Me) (r : Option AV) (M' : Me) : FL ⊕ (Nat × SP) → Prop
  | .inl q => r = some (vI (-(nI 1))) ∧ ∃ B' f g, Fr B B' ∧ f 7 = nI q.1 ∧ M' = sI (sI (mT B' f g) 60 0 1 (nI 4)) 60 0 2 (nI q.2)
  | .inr z => r = some (vI (nI z.2.1)) ∧ ∃ B' f g, Fr B B' ∧ f 7 = nI 0 ∧ PD T B' z.1 z.2 ∧ M' = fin0 (bc6 (mT B' f g))
def txIn (M : Me) (x : Int32) : Bool := decide (nI 0 ≤ x) && decide (x ≤ nI (tpN M))
theorem tX_ge (T : TT) (b : Nat) : b ≤ tX T b := by
  refine Nat.le_trans ?_ (rnU_ge _ _)
  unfold tE
  cases decide (b = T.2)
  · cases tLe T b
    · cases tDi T b
      · exact Nat.le_succ b
      · exact rnU_ge _ _
    · exact rnU_ge _ _
  · exact Nat.le_refl b
theorem notL_ge {T : TT} {C : Nat} : ∀ (f : Nat) (s : Int32) (b : Nat) (z : Int32 × Nat), notL T C f s b = .inr z → b ≤ z.2
  | 0, s, b, z, h => by rw [notL] at h; cases h; exact Nat.le_refl _
  | f + 1, s, b, z, h => by
    rw [notL] at h
    cases hd : dpF T C s b with
    | true => rw [hd] at h; cases h
    | false =>
      rw [hd, cond_false] at h
      cases hw : whl T 1 C (.inr b) with
      | inl q => rw [hw] at h; cases h
      | inr y =>
        rw [hw, bnd_inr] at h
        obtain ⟨b0, e0, e1, -⟩ := whl_inr hw
        cases e0
        subst e1
        dsimp only at h
        have g1 := tX_ge T b
        cases hg : isG T 44 (.inr (tX T b)) with
        | true =>
          rw [hg, cond_true] at h
          have g2 := tX_ge T (tX T b)
          have g3 := notL_ge f _ _ _ h
          omega
        | false => rw [hg] at h; cases h; exact g1
theorem plc_ge {T : TT} {b b' : Nat} (h : plcR T (.inr b) = .inr b') : b ≤ b' := by
  obtain ⟨b0, e0, w1, w2, w3, -⟩ := plc_inr h
  cases e0
  obtain ⟨c1, f1, f2, -⟩ := whl_inr w3
  obtain ⟨c2, f3, -, f4⟩ := ned_inr f1
  rw [w2] at f3
  cases f3
  have f2 : b' = tX T c1 := congrArg Prod.snd f2
  subst f2
  have g1 := tX_ge T b
  have g2 := tX_ge T (tX T b)
  have g3 := tX_ge T (tX T (tX T b))
  have g4 := tX_ge T (tX T (tX T (tX T b)))
  have g5 := tX_ge T c1
  rw [f4] at g5 ⊢
  exact Nat.le_trans g1 (Nat.le_trans g2 (Nat.le_trans g3 (Nat.le_trans g4 g5)))
theorem stT_ge {T : TT} {C b : Nat} {z : Nat × Nat × Int32 × Nat} (h : stT T C (.inr b) = .inr z) : b ≤ z.2.2.2 ∧ 1 ≤ z.1 ∧ z.1 ≤ C ∧ z.2.1 ≤ 999 := by
  unfold stT at h
  cases h5 : whl T 1 C (ned T 4 (.inr b)) with
  | inl q => rw [h5] at h; cases h
  | inr z5 =>
    rw [h5, bnd_inr] at h
    cases h6 : whl T 0 999 (ned T 5 (.inr z5.2)) with
    | inl q => rw [h6] at h; cases h
    | inr z6 =>
      rw [h6, bnd_inr] at h
      obtain ⟨a1, e1, e2, -, u1, u2⟩ := whl_inr h5
      obtain ⟨a2, e3, -, e4⟩ := ned_inr e1
      obtain ⟨a3, e5, e6, -, -, u3⟩ := whl_inr h6
      obtain ⟨a4, e7, -, e8⟩ := ned_inr e5
      cases e3; cases e7
      cases e2; cases e6
      subst e4; subst e8
      have g1 := tX_ge T b
      have g2 := tX_ge T (tX T b)
      have g3 := tX_ge T (tX T (tX T b))
      have g4 := tX_ge T (tX T (tX T (tX T b)))
      have g5 : b ≤ tX T (tX T (tX T (tX T b))) := Nat.le_trans g1 (Nat.le_trans g2 (Nat.le_trans g3 g4))
      cases h7 : notO T C (tX T (tX T (tX T (tX T b)))) with
      | inl q => rw [h7] at h; cases h
      | inr z7 =>
        rw [h7, bnd_inr] at h
        cases h
        refine ⟨?_, u1, u2, u3⟩
        unfold notO at h7
        cases hw : isW T 6 (.inr (tX T (tX T (tX T (tX T b))))) with
        | true =>
          rw [hw, cond_true] at h7
          exact Nat.le_trans g5 (Nat.le_trans (tX_ge T _) (notL_ge _ _ _ _ h7))
        | false => rw [hw] at h7; cases h7; exact g5
theorem lnR_ge {T : TT} {C : Nat} {S S' : SP} (h : lnR T C S = .inr S') : S.2.2.2.2 ≤ S'.2.2.2.2 := by
  obtain ⟨st, bd, P, nb, b⟩ := S
  show b ≤ _
  unfold lnR at h
  dsimp only at h
  cases h1 : isW T 1 (.inr b) with
  | true =>
    rw [h1, cond_true] at h
    unfold stn at h
    dsimp only at h
    cases h8 : decide (st = 8) with
    | true => rw [h8] at h; cases h
    | false =>
      rw [h8] at h
      have h : (bif !decide (tK T (tX T b) = 2) || own T (.inr (tX T b)) then .inl (1, tX T b) else bif dupN T st nb (tX T b) then .inl (3, tX T b) else bnd (plcR T (.inr (tX T (tX T b)))) _) = Sum.inr S' := h
      cases h2 : (!decide (tK T (tX T b) = 2) || own T (.inr (tX T b))) with
      | true => rw [h2] at h; cases h
      | false =>
        rw [h2, cond_false] at h
        cases h3 : dupN T st nb (tX T b) with
        | true => rw [h3] at h; cases h
        | false =>
          rw [h3, cond_false] at h
          cases h4 : plcR T (.inr (tX T (tX T b))) with
          | inl q => rw [h4] at h; cases h
          | inr b4 =>
            rw [h4, bnd_inr] at h
            cases h5 : stT T C (.inr b4) with
            | inl q => rw [h5] at h; cases h
            | inr z =>
              rw [h5, bnd_inr] at h
              cases h
              exact Nat.le_trans (tX_ge T b) (Nat.le_trans (tX_ge T _) (Nat.le_trans (plc_ge h4) (stT_ge h5).1))
  | false =>
    rw [h1, cond_false] at h
    cases h2 : isW T 7 (.inr b) with
    | false => rw [h2] at h; cases h
    | true =>
      rw [h2, cond_true] at h
      unfold brd at h
      dsimp only at h
      cases h8 : decide (bd = 4) with
      | true => rw [h8] at h; cases h
      | false =>
        rw [h8] at h
        have h : bnd (plcR T (.inr (tX T b))) _ = Sum.inr S' := h
        cases h4 : plcR T (.inr (tX T b)) with
        | inl q => rw [h4] at h; cases h
        | inr b4 =>
          rw [h4, bnd_inr] at h
          cases h5 : isW T 6 (.inr b4) with
          | false => rw [h5] at h; cases h
          | true =>
            rw [h5, cond_true] at h
            cases h6 : notL T C 701 (nI 0) (tX T b4) with
            | inl q => rw [h6] at h; cases h
            | inr z =>
              rw [h6, bnd_inr] at h
              cases h
              exact Nat.le_trans (tX_ge T b) (Nat.le_trans (plc_ge h4) (Nat.le_trans (tX_ge T _) (notL_ge _ _ _ _ h6)))
section P7
variable (E : EV) (d : Nat) (M : Me)
theorem r_becomes : Mt E d m_Mo_becomes [vP 60 0] M (fun r M' => r = none ∧ M' = bc6 M) := by
  have l4 : ∀ k, k ≤ 26 → ∀ N, N = setR (bc4 M) 65 0 0 k (fun k => M.1 66 0 k) → Wp E d m_Mo_becomes 111 [some (vP 60 0), some (vI (nI k))] [] N (fun r M' => r = none ∧ M' = bc6 M) := by
    refine loopUp 26 ?_ ?_
    · rintro N rfl
      refine go ok_Mo_becomes [111] 100 ?_
      refine cLe (by omega) (by omega) (fun _ => ?_) (fun q => absurd q (by omega))
      refine ix 0 (show _ < 2 by omega) rfl (And.intro (Or.inl rfl) ?_)
      refine ix 1 (show _ < 2 by omega) rfl (And.intro (Or.inl rfl) ?_)
      exact And.intro (Or.inr rfl) (And.intro rfl rfl)
    · rintro k hk ih N rfl
      refine go ok_Mo_becomes [111] 100 ?_
      refine cLe (by omega) (by omega) (fun q => absurd q (by omega)) (fun _ => ?_)
      refine ix k (show _ < 26 by omega) rfl ?_
      refine ix k (show _ < 26 by omega) rfl ?_
      refine nm_r (nI_add _ _) (ih _ ?_)
      rw [← setR_step, Nat.zero_add]
      rfl
  have l3 : ∀ k, k ≤ 8 → ∀ N, N = setL (bc3 M) 64 0 k (fun k => M.2.1 64 0 (8 + k)) → Wp E d m_Mo_becomes 82 [some (vP 60 0), some (vI (nI k))] [] N (fun r M' => r = none ∧ M' = bc6 M) := by
    refine loopUp 8 ?_ ?_
    · rintro N rfl
      refine go ok_Mo_becomes [111] 100 ?_
      refine cLe (by omega) (by omega) (fun _ => ?_) (fun q => absurd q (by omega))
      exact l4 0 (by omega) _ (setR_0 _ _ _ _ _).symm
    · rintro k hk ih N rfl
      refine go ok_Mo_becomes [82] 100 ?_
      refine cLe (by omega) (by omega) (fun q => absurd q (by omega)) (fun _ => ?_)
      refine ix (8 + k) (show _ < 16 by omega) (nI_s8 _ _) ?_
      refine ix k (show _ < 16 by omega) rfl ?_
      refine nm_r (nI_add _ _) (ih _ ?_)
      rw [← setL_step, setL_out (by omega)]
      rfl
  have l2 : ∀ k, k ≤ 4 → ∀ N, N = setR (bc2 M) 63 0 0 k (fun k => M.1 63 0 (4 + k)) → Wp E d m_Mo_becomes 55 [some (vP 60 0), some (vI (nI k))] [] N (fun r M' => r = none ∧ M' = bc6 M) := by
    refine loopUp 4 ?_ ?_
    · rintro N rfl
      refine go ok_Mo_becomes [82] 100 ?_
      refine cLe (by omega) (by omega) (fun _ => ?_) (fun q => absurd q (by omega))
      exact l3 0 (by omega) _ (setL_0 _ _ _ _).symm
    · rintro k hk ih N rfl
      refine go ok_Mo_becomes [55] 100 ?_
      refine cLe (by omega) (by omega) (fun q => absurd q (by omega)) (fun _ => ?_)
      refine ix (4 + k) (show _ < 8 by omega) (nI_s8 _ _) ?_
      refine ix k (show _ < 8 by omega) rfl ?_
      refine nm_r (nI_add _ _) (ih _ ?_)
      rw [← setR_step, setR_out (by omega), Nat.zero_add]
      rfl
  have l1 : ∀ k, k ≤ 36 → ∀ N, N = setR (bc1 M) 62 0 0 k (fun k => M.1 62 0 (36 + k)) → Wp E d m_Mo_becomes 26 [some (vP 60 0), some (vI (nI k))] [] N (fun r M' => r = none ∧ M' = bc6 M) := by
    refine loopUp 36 ?_ ?_
    · rintro N rfl
      refine go ok_Mo_becomes [55] 100 ?_
      refine cLe (by omega) (by omega) (fun _ => ?_) (fun q => absurd q (by omega))
      exact l2 0 (by omega) _ (setR_0 _ _ _ _ _).symm
    · rintro k hk ih N rfl
      refine go ok_Mo_becomes [26] 100 ?_
      refine cLe (by omega) (by omega) (fun q => absurd q (by omega)) (fun _ => ?_)
      refine ix (36 + k) (show _ < 72 by omega) (nI_s8 _ _) ?_
      refine ix k (show _ < 72 by omega) rfl ?_
      refine nm_r (nI_add _ _) (ih _ ?_)
      rw [← setR_step, setR_out (by omega), Nat.zero_add]
      rfl
  refine Mt.go ok_Mo_becomes [26] 60 rfl ?_
  exact l1 0 (by omega) _ (setR_0 _ _ _ _ _).symm
theorem r_text (hS : StrOK E) (hTp : RTp M) (hTb : RTb M) (x : Int32) : Mt E (d + 11) m_Mo_text [vP 60 0, vI x] M (fun r M' => (txIn M x = false ∧ r = some (vI (-(nI 1))) ∧ M' = rTr M (nI 2)) ∨ (txIn M x = true ∧ TxP (tpT M (tN x)) (txM M (tN x)) r M' (prs (tpT M (tN x))))) := by
  obtain ⟨p1, p2⟩ := hTp
  generalize hQ : (fun r M' => (txIn M x = false ∧ r = some (vI (-(nI 1))) ∧ M' = rTr M (nI 2)) ∨ (txIn M x = true ∧ TxP (tpT M (tN x)) (txM M (tN x)) r M' (prs (tpT M (tN x)))) : Option AV → Me → Prop) = Q
  refine Mt.go ok_Mo_text [55] 60 rfl ?_
  refine xq d ok_Mo_in (r_in E d _ _ _ _) (by omega) ?_
  have ein : (decide (nI 0 ≤ x) && decide (x ≤ (M0 M).1 60 0 4)) = txIn M x := by
    unfold txIn
    rw [show (M0 M).1 60 0 4 = nI (tpN M) from p1]
  rw [ein]
  refine brN (fun c => ?_) (fun c => ?_)
  · have c2 := c
    simp only [txIn, Bool.and_eq_true, decide_eq_true_eq] at c2
    obtain ⟨n, hn, rfl⟩ := nneg c2.1
    have hnt : n ≤ tpN M := (nI_leI hn (by omega)).mp c2.2
    rw [tN_nI hn] at hQ
    generalize hTT : tpT M n = T at hQ
    have hT2 : T.2 = n := by rw [← hTT]; rfl
    have hR0 : ∀ B, (∀ k, B.1 61 0 k = M.1 61 0 k) → RTt T B := by
      intro B hB
      refine ⟨by omega, fun k hk => ?_, fun k => ?_⟩
      · rw [hB k, ← hTT]
        show _ = nI (if k < 700 then _ else 0)
        rw [if_pos hk]
        exact (hTb k hk).1
      · rw [← hTT]
        show (if k < 700 then tN (M.1 61 0 k) else 0) < 256
        by_cases hk : k < 700
        · rw [if_pos hk]; exact (hTb k hk).2
        · rw [if_neg hk]; omega
    generalize hP : prs T = N at hQ
    have hQn : ∀ r M', TxP T (txM M n) r M' N → Q r M' := by
      intro r M' h
      rw [← hQ]
      exact Or.inr ⟨c, h⟩
    have hRt : RTt T (txM M n) := hR0 _ (fun k => rfl)
    -- the end with a fault
    have bad154 : ∀ q B', N = .inl q → Fr (txM M n) B' → ∀ l2 M', TMe T B' (.inl q) M' → Wp E (d + 11) m_Mo_text 154 [some (vP 60 0), some (vI (nI n)), l2] [] M' Q := by
      rintro q B' hq hF l2 M' ⟨f', g', rfl, k'⟩
      obtain ⟨e1, e2, e3, e4, e5⟩ := id k'
      refine go ok_Mo_text [] 60 ?_
      refine qLe e2 rfl (by omega) (by omega) (fun e => absurd e (by omega)) (fun _ => ?_)
      refine hQn _ _ ?_
      rw [hq]
      refine ⟨rfl, B', f', g', hF, e2, ?_⟩
      rw [← e5]
      rfl
    have bad95 : ∀ q B', N = .inl q → Fr (txM M n) B' → ∀ l2 M', TMe T B' (.inl q) M' → Wp E (d + 11) m_Mo_text 95 [some (vP 60 0), some (vI (nI n)), l2] [] M' Q := by
      rintro q B' hq hF l2 M' ⟨f', g', rfl, k'⟩
      obtain ⟨e1, e2, e3, e4, e5⟩ := id k'
      refine go ok_Mo_text [154] 60 ?_
      refine xq d ok_Mo_isSign (r_isSign E d (RTt_Fr hF hRt) 59 (by omega) k') (by omega) ?_
      refine brF (fun _ => ?_) (fun e => by cases e)
      refine qNe e2 rfl (by omega) (by omega) (fun _ => ?_) (fun e => absurd e (by omega))
      refine qNe e2 rfl (by omega) (by omega) (fun _ => ?_) (fun e => absurd e (by omega))
      exact bad154 q B' hq hF _ _ ⟨f', g', rfl, k'⟩
    have loop : ∀ m f1 C S B', C ≤ 10 → f1 ≤ m → T.2 < f1 + S.2.2.2.2 → Fr (txM M n) B' → PD T B' C S → N = bnd (lns T C f1 S) (lfin T C) → ∀ l2 f g, TS T f g (.inr S.2.2.2.2) → Wp E (d + 11) m_Mo_text 95 [some (vP 60 0), some (vI (nI n)), l2] [] (mT B' f g) Q := by
      intro m
      induction m with
      | zero =>
        intro f1 C S B' hC hf hT hF hD hN l2 f g h
        have := h.2.2.1
        omega
      | succ m ih =>
        intro f1 C S B' hC hf hT hF hD hN l2 f g h
        obtain ⟨f0, rfl⟩ : ∃ f0, f1 = f0 + 1 := ⟨f1 - 1, by have := h.2.2.1; omega⟩
        rw [lns] at hN
        have hRt' := RTt_Fr hF hRt
        refine go ok_Mo_text [95, 135, 154] 60 ?_
        refine xq d ok_Mo_isSign (r_isSign E d hRt' 59 (by omega) h) (by omega) ?_
        refine brF (fun c => ?_) (fun c => ?_)
        · rw [c, cond_false, bnd_inr] at hN
          unfold lfin at hN
          obtain ⟨e1, e2, e3, e4, e5, -⟩ := id h
          have hk := tK_lt T S.2.2.2.2
          refine qNe e2 rfl (by omega) (by omega) (fun e => absurd e (by omega)) (fun _ => ?_)
          refine qEq e5 rfl (by omega) (by omega) (fun e => ?_) (fun e => ?_)
          · rw [decide_eq_true e] at hN
            have hN : N = bif decide (S.1 = 0) then .inl (5, S.2.2.2.2) else .inr (C, S) := hN
            have hD1 := hD.2.1
            refine go ok_Mo_text [154] 60 ?_
            refine qNe e2 rfl (by omega) (by omega) (fun e => absurd e (by omega)) (fun _ => ?_)
            refine qNe (show (mT B' f g).1 60 0 21 = nI S.1 from hD1.1) rfl (by omega) (by omega) (fun z => ?_) (fun z => ?_)
            · rw [decide_eq_false z] at hN
              refine go ok_Mo_text [] 60 ?_
              refine qLe e2 rfl (by omega) (by omega) (fun _ => ?_) (fun e => absurd e (by omega))
              refine xc d ok_Mo_becomes (r_becomes E d _) (by omega) ?_
              rintro r M2 ⟨rfl, rfl⟩
              refine x_good E (d + 11) _ (by omega) ?_
              refine hQn _ _ ?_
              rw [hN]
              refine ⟨?_, B', f, g, hF, e2, hD, rfl⟩
              show some (vI (B'.1 60 0 21)) = _
              rw [hD1.1]
            · rw [decide_eq_true z] at hN
              refine xc d ok_Mo_flaw (r_flaw E d 5 (by omega) (by omega) h) (by omega) ?_
              rintro r M2 ⟨rfl, k2⟩
              exact bad154 _ B' hN hF _ _ k2
          · rw [decide_eq_false e] at hN
            refine xc d ok_Mo_flaw (r_flaw E d 1 (by omega) (by omega) h) (by omega) ?_
            rintro r M2 ⟨rfl, f2, g2, rfl, k2⟩
            obtain ⟨e1, e2, e3, e4, e5⟩ := id k2
            refine go ok_Mo_text [154] 60 ?_
            refine qNe e2 rfl (by omega) (by omega) (fun _ => ?_) (fun e => absurd e (by omega))
            exact bad154 _ B' hN hF _ _ ⟨f2, g2, rfl, k2⟩
        · rw [c, cond_true] at hN
          have hk4 : tK T S.2.2.2.2 = 4 := by
            unfold isG at c
            simp only [Bool.and_eq_true, decide_eq_true_eq] at c
            exact c.1
          have hgt := tX_gt (T := T) (by omega) h.2.2.1 hRt.1
          refine xc (d + 2) ok_Mo_goOn (r_goOn E d hRt' h) (by omega) ?_
          rintro r M2 ⟨rfl, f2, g2, rfl, k2⟩
          refine xc (d + 10) ok_Mo_readLine (r_readLine E d hS hRt' hC (S.1, S.2.1, S.2.2.1, S.2.2.2.1, tX T S.2.2.2.2) hD k2) (by omega) ?_
          rintro r M3 ⟨rfl, k3⟩
          cases hL : lnR T C (S.1, S.2.1, S.2.2.1, S.2.2.2.1, tX T S.2.2.2.2) with
          | inl q =>
            rw [hL] at k3 hN
            obtain ⟨B2, hF2, k4⟩ := k3
            exact bad95 q B2 hN (Fr_tr hF hF2) _ _ k4
          | inr S2 =>
            rw [hL] at k3 hN
            rw [bnd_inr] at hN
            obtain ⟨B2, hF2, ⟨f4, g4, rfl, k4⟩, hD2⟩ := k3
            have hge := lnR_ge hL
            dsimp only at hge
            exact ih f0 C S2 B2 hC (by omega) (by omega) (Fr_tr hF hF2) hD2 hN _ f4 g4 k4
    -- the first words
    have from74 : ∀ l2, Wp E (d + 11) m_Mo_text 74 [some (vP 60 0), some (vI (nI n)), some (vI l2)] [] (txM M n) Q := by
      intro l2
      have hg0 := r_goOn0 E d (T := T) (B := txM M n) (f := (txM M n).1 60 0) (g := (txM M n).2.1 60 0 13) hRt 0 (by rw [hT2]; rfl) rfl (Nat.zero_le _) rfl
      rw [mT_self] at hg0
      refine go ok_Mo_text [95] 60 ?_
      refine xc (d + 2) ok_Mo_goOn hg0 (by omega) ?_
      rintro r M2 ⟨rfl, f2, g2, rfl, k2⟩
      refine xc (d + 7) ok_Mo_needs (r_needs E d hS hRt 0 (by omega) k2) (by omega) ?_
      rintro r M3 ⟨rfl, f3, g3, rfl, k3⟩
      refine xc (d + 3) ok_Mo_readWhole (r_readWhole E d (B := txM M n) hRt 1 10 (by omega) (by omega) k3) (by omega) ?_
      rintro r M4 ⟨v, rfl, q4⟩
      obtain ⟨⟨f4, g4, rfl, k4⟩, ev⟩ := WhP_x q4
      have hFv : Fr (txM M n) (sI (txM M n) 60 0 20 v) := Fr_sI (Fr_rf _) (by unfold PZ; omega)
      have eM : sI (mT (txM M n) f4 g4) 60 0 20 v = mT (sI (txM M n) 60 0 20 v) f4 g4 := mT_sIo (by omega)
      unfold prs at hP
      cases hW : whl T 1 10 (ned T 0 (.inr (tB T 0))) with
      | inl q =>
        rw [hW] at hP k4
        have k4 : TS T f4 g4 (.inl q) := k4
        have := bad95 q _ hP.symm hFv (some (vI l2)) _ ⟨f4, g4, rfl, k4⟩
        rw [← eM] at this
        exact this
      | inr z =>
        have ev := ev z hW
        rw [hW, bnd_inr] at hP
        rw [hW] at k4
        have k4 : TS T f4 g4 (.inr z.2) := k4
        obtain ⟨b0, -, ez, -, u1, u2⟩ := whl_inr hW
        have hC : z.1 ≤ 10 := by rw [ez]; exact u2
        have := loop 701 701 z.1 (0, 0, fun _ _ => nI 0, fun _ => 0, z.2) _ hC (Nat.le_refl _) (by show T.2 < 701 + z.2; omega) hFv ⟨ev, ⟨rfl, by show (0 : Nat) ≤ 8; omega⟩, ⟨rfl, by show (0 : Nat) ≤ 4; omega⟩, fun s hs => absurd hs (Nat.not_lt_zero _), fun s hs => absurd hs (Nat.not_lt_zero _), rfl, rfl⟩ hP.symm (some (vI l2)) f4 g4 k4
        rw [← eM] at this
        exact this
    have clr0 : ∀ k, k ≤ 26 → ∀ N, N = setR (sI (sI (sI (sI (sI (sI (M0 M) 60 0 5 (nI n)) 60 0 4 (nI 0)) 60 0 6 (nI 0)) 60 0 7 (nI 0)) 60 0 21 (nI 0)) 60 0 22 (nI 0)) 66 0 0 k (fun _ => nI 0) → Wp E (d + 11) m_Mo_text 55 [some (vP 60 0), some (vI (nI n)), some (vI (nI k))] [] N Q := by
      refine loopUp 26 ?_ ?_
      · rintro N rfl
        refine go ok_Mo_text [74] 60 ?_
        refine cLe (by omega) (by omega) (fun _ => ?_) (fun q => absurd q (by omega))
        exact from74 _
      · rintro k hk ih N rfl
        refine go ok_Mo_text [55] 60 ?_
        refine cLe (by omega) (by omega) (fun q => absurd q (by omega)) (fun _ => ?_)
        refine ix k (show _ < 26 by omega) rfl ?_
        refine nm_r (nI_add _ _) (ih _ ?_)
        rw [← setR_step, Nat.zero_add]
    exact clr0 0 (by omega) _ (setR_0 _ _ _ _ _).symm
  · refine x_ref E (d + 11) (nI 2) (by omega) ?_
    rw [← hQ]
    exact Or.inl ⟨c, rfl, rfl⟩
end P7
