/-! the class: a text begun -/
def NbgP (M : Me) (p n : Nat) (N : Me) : Prop := (∀ i r k, ¬ (4 ≤ i ∧ i ≤ 7) → N.1 i r k = M.1 i r k) ∧ N.2 = M.2 ∧ (∀ s, s < 8 → N.1 5 0 s = M.1 41 p s ∧ N.1 6 0 s = M.1 42 p s ∧ N.1 7 0 s = M.1 35 p s) ∧ N.1 4 0 3 = nI (2 ^ n - 1) ∧ N.1 4 0 4 = nI 0
def BgP (M : Me) (p q n m C : Nat) (N : Me) : Prop := N.2 = (sG (sG M 0 0 9 p) 0 0 10 q).2 ∧ (∀ i r k, ¬ (4 ≤ i ∧ i ≤ 7) → ¬ (i = 8 ∧ k = 2) → i ≠ 13 → ¬ (r = p ∧ 46 ≤ i ∧ i ≤ 49) → N.1 i r k = M.1 i r k) ∧ (∀ s, s < 8 → N.1 5 0 s = M.1 41 p s ∧ N.1 6 0 s = M.1 42 p s ∧ N.1 7 0 s = M.1 35 p s) ∧ (N.1 4 0 3 = nI (2 ^ n - 1) ∧ N.1 4 0 4 = nI 0) ∧ (N.1 8 0 2 = nI 0 ∧ ∀ i, i < 2 → N.1 13 0 i = nI 0) ∧ NbI N p n m C n n 0 N
theorem PDc_o {T : TT} {B B' : Me} {p C : Nat} {S : SP} (h : PDc T B p C S) (e : ∀ i r k, 30 ≤ i → i ≤ 45 → B'.1 i r k = B.1 i r k) : PDc T B' p C S := by
  obtain ⟨⟨h1, h1', h1''⟩, ⟨h2, h2'⟩, ⟨h3, h3'⟩, h4, h5, h6, h7⟩ := h
  refine ⟨⟨?_, ?_, ?_⟩, ⟨?_, h2'⟩, ⟨?_, h3'⟩, fun s hs => ?_, fun s hs hs8 => ?_, fun b hb => ?_, fun b hb hb4 => ?_⟩
  · rw [e _ _ _ (by omega) (by omega)]; exact h1
  · rw [e _ _ _ (by omega) (by omega)]; exact h1'
  · rw [e _ _ _ (by omega) (by omega)]; exact h1''
  · rw [e _ _ _ (by omega) (by omega)]; exact h2
  · rw [e _ _ _ (by omega) (by omega)]; exact h3
  · obtain ⟨⟨⟨q1, q2, q3⟩, q4, q5, q6⟩, n1, n2, n3⟩ := h4 s hs
    refine ⟨⟨⟨?_, ?_, ?_⟩, ?_, ?_, ?_⟩, ?_, n2, fun i hi => ?_⟩
    · rw [e _ _ _ (by omega) (by omega)]; exact q1
    · rw [e _ _ _ (by omega) (by omega)]; exact q2
    · rw [e _ _ _ (by omega) (by omega)]; exact q3
    · rw [e _ _ _ (by omega) (by omega)]; exact q4
    · rw [e _ _ _ (by omega) (by omega)]; exact q5
    · rw [e _ _ _ (by omega) (by omega)]; exact q6
    · rw [e _ _ _ (by omega) (by omega)]; exact n1
    · rw [e _ _ _ (by omega) (by omega)]; exact n3 i hi
  · rw [e _ _ _ (by omega) (by omega)]; exact h5 s hs hs8
  · obtain ⟨⟨q1, q2, q3⟩, q4⟩ := h6 b hb
    refine ⟨⟨?_, ?_, ?_⟩, ?_⟩
    · rw [e _ _ _ (by omega) (by omega)]; exact q1
    · rw [e _ _ _ (by omega) (by omega)]; exact q2
    · rw [e _ _ _ (by omega) (by omega)]; exact q3
    · rw [e _ _ _ (by omega) (by omega)]; exact q4
  · rw [e _ _ _ (by omega) (by omega)]; exact h7 b hb hb4
/-- a text taken: what is new -/
def TxOK (T : TT) (M : Me) (C : Nat) (S : SP) (M' : Me) : Prop := M'.2 = (sG (sG M 0 0 9 (M.2.2 0 0 10)) 0 0 10 (M.2.2 0 0 9)).2 ∧ (∀ i r k, ¬ (3 ≤ i ∧ i ≤ 7) → ¬ (i = 8 ∧ k = 2) → i ≠ 13 → ¬ (i = 1 ∧ k = 1) → ¬ (i = 0 ∧ 11 ≤ k ∧ k ≤ 13) → ¬ (30 ≤ i ∧ i ≤ 49) → M'.1 i r k = M.1 i r k) ∧ (M'.1 31 (M.2.2 0 0 9) 4 = M.1 31 (M.2.2 0 0 9) 4 ∧ M'.1 36 (M.2.2 0 0 9) 4 = M.1 36 (M.2.2 0 0 9) 4) ∧ (M'.1 1 0 1 = nI 0 ∧ M'.1 0 0 11 = nI 0 ∧ M'.1 0 0 12 = nI 0) ∧ PDc T M' (M.2.2 0 0 10) C S ∧ (∀ s, s < 8 → M'.1 5 0 s = M'.1 41 (M.2.2 0 0 10) s ∧ M'.1 6 0 s = M'.1 42 (M.2.2 0 0 10) s ∧ M'.1 7 0 s = M'.1 35 (M.2.2 0 0 10) s) ∧ (M'.1 4 0 3 = nI (2 ^ S.1 - 1) ∧ M'.1 4 0 4 = nI 0) ∧ (M'.1 8 0 2 = nI 0 ∧ ∀ i, i < 2 → M'.1 13 0 i = nI 0) ∧ NbI M' (M.2.2 0 0 10) S.1 S.2.1 C S.1 S.1 0 M'
/-- a text refused for its fault -/
def TxNo (M : Me) (q : FL) (M' : Me) : Prop := M'.2 = M.2 ∧ (∀ i r k, i ≠ 3 → ¬ (i = 1 ∧ k = 1) → ¬ (i = 0 ∧ 11 ≤ k ∧ k ≤ 13) → ¬ PZc (M.2.2 0 0 10) i r k → M'.1 i r k = M.1 i r k) ∧ M'.1 1 0 1 = nI 0 ∧ M'.1 0 0 11 = nI 4 ∧ M'.1 0 0 12 = nI q.1 ∧ M'.1 0 0 13 = nI q.2
def TxC (T : TT) (M : Me) (r : Option AV) (M' : Me) : FL ⊕ (Nat × SP) → Prop
  | .inl q => r = some (vI (-(nI 1))) ∧ TxNo M q M'
  | .inr z => r = some (vI (nI z.2.1)) ∧ TxOK T M z.1 z.2 M'
theorem mC_2 {B : Me} {f : Nat → Int32} : (mC B f).2 = B.2 := rfl
section TX
variable (E : EV) (d : Nat)
theorem c_Nbegin (M : Me) (p n : Nat) (hn : M.1 31 p 5 = nI n) (hn8 : n ≤ 8) : Mt E (d + 1) m_Now_begin [vP 4 0, vP 30 p] M (fun r N => r = none ∧ NbgP M p n N) := by
  have key : ∀ k, k ≤ 8 → ∀ N, (∀ i r j, ¬ (5 ≤ i ∧ i ≤ 7) → N.1 i r j = M.1 i r j) → N.2 = M.2 → (∀ s, s < k → N.1 5 0 s = M.1 41 p s ∧ N.1 6 0 s = M.1 42 p s ∧ N.1 7 0 s = M.1 35 p s) → Wp E (d + 1) m_Now_begin 2 [some (vP 4 0), some (vP 30 p), some (vI (nI k))] [] N (fun r N => r = none ∧ NbgP M p n N) := by
    refine loopUp 8 ?_ ?_
    · intro N n1 n2 n3
      have e5 : N.1 31 p 5 = nI n := by rw [n1 31 p 5 (by omega)]; exact hn
      have hb := c_bit E d N n
      rw [← e5] at hb
      refine go ok_Now_begin [2] 60 ?_
      refine cLe (by omega) (by omega) (fun _ => ?_) (fun q => absurd q (by omega))
      refine xq d ok_CS_bit hb (by omega) ?_
      refine And.intro rfl ⟨fun i r k hn => ?_, n2, fun s hs => ⟨?_, ?_, ?_⟩, ?_, ?_⟩
      · rw [sI_at, if_neg (by omega), sI_at, if_neg (by omega)]; exact n1 i r k (by omega)
      · rw [sI_at, if_neg (by omega), sI_at, if_neg (by omega)]; exact (n3 s hs).1
      · rw [sI_at, if_neg (by omega), sI_at, if_neg (by omega)]; exact (n3 s hs).2.1
      · rw [sI_at, if_neg (by omega), sI_at, if_neg (by omega)]; exact (n3 s hs).2.2
      · rw [sI_at, if_neg (by omega), sI_at, if_pos ⟨rfl, rfl, rfl⟩]
        exact ones_eq n (by omega)
      · rw [sI_at, if_pos ⟨rfl, rfl, rfl⟩]
    · intro k hk ih N n1 n2 n3
      refine go ok_Now_begin [2] 60 ?_
      refine cLe (by omega) (by omega) (fun q => absurd q (by omega)) (fun _ => ?_)
      refine ix k hk rfl ?_
      refine ix k hk rfl ?_
      refine ix k hk rfl ?_
      refine ix k hk rfl ?_
      refine ix k hk rfl ?_
      refine ix k hk rfl ?_
      refine nm_r (nI_add _ _) (ih _ (fun i r j hn => ?_) n2 (fun s hs => ⟨?_, ?_, ?_⟩))
      · rw [sI_at, if_neg (by omega), sI_at, if_neg (by omega), sI_at, if_neg (by omega)]; exact n1 i r j hn
      · rw [sI_at, if_neg (by omega), sI_at, if_neg (by omega), sI_at]
        by_cases e : s = k
        · rw [if_pos ⟨rfl, rfl, e⟩, n1 41 p k (by omega), e]
        · rw [if_neg (fun z => e z.2.2)]; exact (n3 s (by omega)).1
      · rw [sI_at, if_neg (by omega), sI_at]
        by_cases e : s = k
        · rw [if_pos ⟨rfl, rfl, e⟩, sI_at, if_neg (by omega), n1 42 p k (by omega), e]
        · rw [if_neg (fun z => e z.2.2), sI_at, if_neg (by omega)]; exact (n3 s (by omega)).2.1
      · rw [sI_at]
        by_cases e : s = k
        · rw [if_pos ⟨rfl, rfl, e⟩, sI_at, if_neg (by omega), sI_at, if_neg (by omega), n1 35 p k (by omega), e]
        · rw [if_neg (fun z => e z.2.2), sI_at, if_neg (by omega), sI_at, if_neg (by omega)]; exact (n3 s (by omega)).2.2
  refine Mt.go ok_Now_begin [2] 60 rfl ?_
  exact key 0 (Nat.zero_le _) M (fun _ _ _ _ => rfl) rfl (fun s hs => absurd hs (Nat.not_lt_zero s))
theorem c_Hempty (M : Me) : Mt E d m_History_empty [vP 8 0] M (fun r N => r = none ∧ N = sI M 8 0 2 (nI 0)) := Mt.go ok_History_empty [] 30 rfl (And.intro rfl rfl)
theorem c_Tempty (M : Me) : Mt E d m_Tape_empty [vP 1 0] M (fun r N => r = none ∧ N = sI M 1 0 1 (nI 0)) := Mt.go ok_Tape_empty [] 30 rfl (And.intro rfl rfl)
theorem c_beginAnew (M : Me) (n m C : Nat) (h4 : M.1 31 (M.2.2 0 0 10) 4 = nI 8) (h4' : M.1 36 (M.2.2 0 0 10) 4 = nI 4) (hn : M.1 31 (M.2.2 0 0 10) 5 = nI n) (hn8 : n ≤ 8) (hm : M.1 36 (M.2.2 0 0 10) 5 = nI m) (hm4 : m ≤ 4) (hC : M.1 30 (M.2.2 0 0 10) 10 = nI C) (hC10 : C ≤ 10) : Mt E (d + 4) m_CS_beginAnew [vP 0 0] M (fun r N => r = none ∧ BgP M (M.2.2 0 0 10) (M.2.2 0 0 9) n m C N) := by
  generalize hQ : (fun r N => r = none ∧ BgP M (M.2.2 0 0 10) (M.2.2 0 0 9) n m C N : Option AV → Me → Prop) = Q
  have fnb := c_findNeighbours E d (sG (sG M 0 0 9 (M.2.2 0 0 10)) 0 0 10 (M.2.2 0 0 9)) (M.2.2 0 0 10) n m C h4 h4' hn hn8 hm hm4 hC hC10
  refine Mt.go ok_CS_beginAnew [25] 60 rfl ?_
  refine xc (d + 3) ok_Plan_findNeighbours fnb (by omega) ?_
  rintro r N2 ⟨rfl, hN2⟩
  have e9 : N2.2.2 0 0 9 = M.2.2 0 0 10 := by rw [hN2.2.1]; rfl
  have hbg := c_Nbegin E d N2 (M.2.2 0 0 10) n (by rw [hN2.1 _ _ _ (by omega)]; exact hn) hn8
  rw [← e9] at hbg
  refine go ok_CS_beginAnew [45] 60 ?_
  refine xc (d + 1) ok_Now_begin hbg (by omega) ?_
  rw [e9]
  rintro r N3 ⟨rfl, b1', b2, b3, b4, b5⟩
  refine xc d ok_History_empty (c_Hempty E d N3) (by omega) ?_
  rintro r N4 ⟨rfl, rfl⟩
  have key : ∀ k, k ≤ 2 → ∀ N, N = setR (sI N3 8 0 2 (nI 0)) 13 0 0 k (fun _ => nI 0) → Wp E (d + 4) m_CS_beginAnew 45 [some (vP 0 0), some (vP 30 (M.2.2 0 0 9)), some (vI (nI k))] [] N Q := by
    refine loopUp 2 ?_ ?_
    · rintro N rfl
      refine go ok_CS_beginAnew [45] 60 ?_
      refine cLe (by omega) (by omega) (fun _ => ?_) (fun q => absurd q (by omega))
      rw [← hQ]
      have g : ∀ i r k, ¬ (4 ≤ i ∧ i ≤ 7) → ¬ (i = 8 ∧ k = 2) → i ≠ 13 → (setR (sI N3 8 0 2 (nI 0)) 13 0 0 2 (fun _ => nI 0)).1 i r k = N2.1 i r k := by
        intro i r k n1 n2 n3
        rw [setR_if, if_neg (by omega), sI_at, if_neg (by omega), b1' i r k n1]
      refine And.intro rfl ⟨?_, fun i r k n1 n2 n3 n4 => ?_, fun s hs => ?_, ⟨?_, ?_⟩, ⟨?_, fun i hi => ?_⟩, NbI_tr hN2 (fun i j q1 q2 => ?_) (fun i j q1 q2 => ?_)⟩
      · exact b2.trans hN2.2.1
      · rw [g i r k n1 n2 n3]; exact hN2.1 i r k n4
      · obtain ⟨c1, c2, c3⟩ := b3 s hs
        rw [setR_if, if_neg (by omega), sI_at, if_neg (by omega), setR_if, if_neg (by omega), sI_at, if_neg (by omega), setR_if, if_neg (by omega), sI_at, if_neg (by omega), c1, c2, c3, hN2.1 _ _ _ (by omega), hN2.1 _ _ _ (by omega), hN2.1 _ _ _ (by omega)]
        exact ⟨rfl, rfl, rfl⟩
      · rw [setR_if, if_neg (by omega), sI_at, if_neg (by omega)]; exact b4
      · rw [setR_if, if_neg (by omega), sI_at, if_neg (by omega)]; exact b5
      · rw [setR_if, if_neg (by omega), sI_at, if_pos ⟨rfl, rfl, rfl⟩]
      · rw [setR_if, if_pos (by omega)]
      · rw [g i _ j (by omega) (by omega) (by omega)]; exact hN2.1 i _ j (by omega)
      · rw [g i _ j (by omega) (by omega) (by omega)]
    · rintro k hk ih N rfl
      refine go ok_CS_beginAnew [45] 60 ?_
      refine cLe (by omega) (by omega) (fun q => absurd q (by omega)) (fun _ => ?_)
      refine ix k hk rfl (And.intro (Or.inl rfl) ?_)
      refine nm_r (nI_add _ _) (ih _ ?_)
      rw [← setR_step, Nat.zero_add]
  exact key 0 (Nat.zero_le _) _ (setR_0 _ _ _ _ _).symm
theorem c_text (hS : StrOK E) (M : Me) (c : Nat) (hc : M.1 1 0 1 = nI c) (hc7 : c ≤ 700) (x : Int32) (T : TT) (hT : CTp T M) (hx : in3 x c = true → T.2 = tN x) (h4 : M.1 31 (M.2.2 0 0 10) 4 = nI 8) (h4' : M.1 36 (M.2.2 0 0 10) 4 = nI 4) (hpq : M.2.2 0 0 9 ≠ M.2.2 0 0 10) : Mt E (d + 10) m_CS_text [vP 0 0, vI x] M (fun r M' => (in3 x c = false ∧ r = some (vI (-(nI 1))) ∧ M' = sI M 0 0 11 (nI 2)) ∨ (in3 x c = true ∧ TxC T M r M' (prs T))) := by
  generalize hQ : (fun r M' => (in3 x c = false ∧ r = some (vI (-(nI 1))) ∧ M' = sI M 0 0 11 (nI 2)) ∨ (in3 x c = true ∧ TxC T M r M' (prs T)) : Option AV → Me → Prop) = Q
  have out : in3 x c = false → Wp E (d + 10) m_CS_text 15 [some (vP 0 0), some (vI x), none] [] M Q := by
    intro e
    refine go ok_CS_text [] 60 ?_
    refine xc d ok_CS_refused (c_refused E d M (nI 2)) (by omega) ?_
    rintro r N ⟨rfl, rfl⟩
    rw [← hQ]
    exact Or.inl ⟨e, rfl, rfl⟩
  refine Mt.go ok_CS_text [15, 21] 60 rfl ?_
  refine And.intro (fun e => ?_) (fun e => ?_)
  · refine out ?_
    unfold in3
    rw [decide_eq_false (Int32.not_le.mpr e)]; rfl
  · obtain ⟨n, hn, rfl⟩ := nneg (Int32.not_lt.mp e)
    refine qLe rfl hc hn (by omega) (fun q => ?_) (fun q => ?_)
    · have hin : in3 (nI n) c = true := by
        unfold in3
        rw [decide_eq_true (Int32.not_lt.mp e), decide_eq_true ((nI_leI hn (by omega)).mpr q)]; rfl
      have hT2 := hx hin
      rw [tN_nI hn] at hT2
      have hrd := c_read E d hS M (M.2.2 0 0 10) n hT hT2 h4 h4'
      refine go ok_CS_text [34] 60 ?_
      refine xc (d + 9) ok_Reader_read hrd (by omega) ?_
      rintro r M1 k1
      have hfin : ∀ r M', TxC T M r M' (prs T) → Q r M' := fun r M' h => by
        rw [← hQ]
        exact Or.inr ⟨hin, h⟩
      cases hP : prs T with
      | inl q =>
        rw [hP] at k1 hfin
        obtain ⟨rfl, B', hF, f, rfl, f7, f8⟩ := k1
        refine go ok_CS_text [] 60 ?_
        refine xc d ok_Tape_empty (c_Tempty E d _) (by omega) ?_
        rintro r M2 ⟨rfl, rfl⟩
        refine And.intro (fun e => absurd rfl e) (fun _ => ?_)
        refine xc d ok_CS_refused (c_refused E d _ (nI 4)) (by omega) ?_
        rintro r M3 ⟨rfl, rfl⟩
        refine hfin _ _ ⟨rfl, hF.2, fun i r k n1 n2 n3 n4 => ?_, ?_, ?_, ?_, ?_⟩
        · rw [sI_at, if_neg (by omega), sI_at, if_neg (by omega), sI_at, if_neg (by omega), sI_at, if_neg (by omega), mC_o n1]
          exact hF.1 i r k n4
        · rw [sI_at, if_neg (by omega), sI_at, if_neg (by omega), sI_at, if_neg (by omega), sI_at, if_pos ⟨rfl, rfl, rfl⟩]
        · rw [sI_at, if_pos ⟨rfl, rfl, rfl⟩]
        · rw [sI_at, if_neg (by omega), sI_at, if_neg (by omega), sI_at, if_pos ⟨rfl, rfl, rfl⟩]
          exact f7
        · rw [sI_at, if_neg (by omega), sI_at, if_pos ⟨rfl, rfl, rfl⟩]
          exact f8
      | inr z =>
        rw [hP] at k1 hfin
        obtain ⟨C, S⟩ := z
        obtain ⟨rfl, B', hF, ⟨f, rfl, hf⟩, hD⟩ := k1
        dsimp only at hf hD
        have hC : C ≤ 10 := by
          unfold prs at hP
          cases hW : whl T 1 10 (ned T 0 (.inr (tB T 0))) with
          | inl q => rw [hW] at hP; cases hP
          | inr z =>
            obtain ⟨b0, -, ez, -, u1, u2⟩ := whl_inr hW
            rw [hW, bnd_inr] at hP
            cases hL : lns T z.1 701 (0, 0, fun _ _ => nI 0, fun _ => 0, z.2) with
            | inl q => rw [hL] at hP; cases hP
            | inr S' =>
              rw [hL, bnd_inr] at hP
              unfold lfin at hP
              cases h1 : (!decide (tK T S'.2.2.2.2 = 1)) with
              | true => rw [h1] at hP; cases hP
              | false =>
                rw [h1, cond_false] at hP
                cases h2 : decide (S'.1 = 0) with
                | true => rw [h2] at hP; cases hP
                | false =>
                  rw [h2] at hP
                  cases hP
                  rw [ez]; exact u2
        have h7 : f 7 = nI 0 := hf.2.2.2.2.2.2.2.2
        generalize hN0 : sI (sI (sI (mC B' f) 1 0 1 (nI 0)) 0 0 12 (f 7)) 0 0 13 (f 8) = N0
        have o0 : ∀ i r k, ¬ i = 3 → ¬ (i = 1 ∧ k = 1) → ¬ (i = 0 ∧ 11 ≤ k ∧ k ≤ 13) → N0.1 i r k = B'.1 i r k := by
          intro i r k n1 n2 n3
          rw [← hN0, sI_at, if_neg (by omega), sI_at, if_neg (by omega), sI_at, if_neg (by omega), mC_o n1]
        have o2 : N0.2 = M.2 := by rw [← hN0]; exact hF.2
        have e10 : N0.2.2 0 0 10 = M.2.2 0 0 10 := by rw [o2]
        have e9 : N0.2.2 0 0 9 = M.2.2 0 0 9 := by rw [o2]
        obtain ⟨⟨d1, d2, d3⟩, ⟨d4, d5⟩, ⟨d6, d7⟩, -⟩ := id hD
        have hba := c_beginAnew E d N0 S.1 S.2.1 C (by rw [e10, o0 _ _ _ (by omega) (by omega) (by omega)]; exact d2) (by rw [e10, o0 _ _ _ (by omega) (by omega) (by omega)]; exact d3) (by rw [e10, o0 _ _ _ (by omega) (by omega) (by omega)]; exact d4) d5 (by rw [e10, o0 _ _ _ (by omega) (by omega) (by omega)]; exact d6) d7 (by rw [e10, o0 _ _ _ (by omega) (by omega) (by omega)]; exact d1) hC
        rw [e10, e9] at hba
        have w73 : ∀ l1, Wp E (d + 10) m_CS_text 73 [some (vP 0 0), some (vI l1), some (vI (nI 1))] [] N0 Q := by
          intro l1
          refine go ok_CS_text [] 60 ?_
          refine xc (d + 4) ok_CS_beginAnew hba (by omega) ?_
          rintro r N ⟨rfl, a1, a2, a3, a4, a5, a6⟩
          have gp : N.2.2 0 0 9 = M.2.2 0 0 10 := by rw [a1]; rfl
          have hcnt : N.1 31 (N.2.2 0 0 9) 5 = nI S.1 := by
            rw [gp, a2 _ _ _ (by omega) (by omega) (by omega) (by omega), o0 _ _ _ (by omega) (by omega) (by omega)]; exact d4
          refine xc d ok_CS_answered (c_answered E d N _) (by omega) ?_
          rintro r M3 ⟨rfl, rfl⟩
          refine hfin _ _ ⟨?_, ?_, fun i r k n1 n2 n3 n4 n5 n6 => ?_, ⟨?_, ?_⟩, ⟨?_, ?_, ?_⟩, PDc_o hD (fun i r k q1 q2 => ?_), fun s hs => ?_, ⟨?_, ?_⟩, ⟨?_, fun i hi => ?_⟩, NbI_tr a6 (fun i j q1 q2 => ?_) (fun i j q1 q2 => ?_)⟩
          · show some (vI (N.1 31 (N.2.2 0 0 9) 5)) = _
            rw [hcnt]
          · show N.2 = _
            rw [a1]
            rw [show (sG (sG N0 0 0 9 (M.2.2 0 0 10)) 0 0 10 (M.2.2 0 0 9)).2 = (sG (sG M 0 0 9 (M.2.2 0 0 10)) 0 0 10 (M.2.2 0 0 9)).2 by unfold sG; rw [o2]]
          · rw [sI_at, if_neg (by omega), a2 i r k (by omega) n2 n3 (by omega), o0 i r k (by omega) n4 (by omega)]
            exact hF.1 i r k (by unfold PZc; omega)
          · rw [sI_at, if_neg (by omega), a2 _ _ _ (by omega) (by omega) (by omega) (by omega), o0 _ _ _ (by omega) (by omega) (by omega)]
            exact hF.1 _ _ _ (by unfold PZc; omega)
          · rw [sI_at, if_neg (by omega), a2 _ _ _ (by omega) (by omega) (by omega) (by omega), o0 _ _ _ (by omega) (by omega) (by omega)]
            exact hF.1 _ _ _ (by unfold PZc; omega)
          · rw [sI_at, if_neg (by omega), a2 _ _ _ (by omega) (by omega) (by omega) (by omega), ← hN0, sI_at, if_neg (by omega), sI_at, if_neg (by omega), sI_at, if_pos ⟨rfl, rfl, rfl⟩]
          · rw [sI_at, if_pos ⟨rfl, rfl, rfl⟩]
          · rw [sI_at, if_neg (by omega), a2 _ _ _ (by omega) (by omega) (by omega) (by omega), ← hN0, sI_at, if_neg (by omega), sI_at, if_pos ⟨rfl, rfl, rfl⟩]
            exact h7
          · rw [sI_at, if_neg (by omega), a2 i r k (by omega) (by omega) (by omega) (by omega), o0 i r k (by omega) (by omega) (by omega)]
          · obtain ⟨c1, c2, c3⟩ := a3 s hs
            rw [sI_at, if_neg (by omega), sI_at, if_neg (by omega), sI_at, if_neg (by omega), sI_at, if_neg (by omega), sI_at, if_neg (by omega), sI_at, if_neg (by omega), c1, c2, c3, a2 _ _ _ (by omega) (by omega) (by omega) (by omega), a2 _ _ _ (by omega) (by omega) (by omega) (by omega), a2 _ _ _ (by omega) (by omega) (by omega) (by omega)]
            exact ⟨rfl, rfl, rfl⟩
          · rw [sI_at, if_neg (by omega)]; exact a4.1
          · rw [sI_at, if_neg (by omega)]; exact a4.2
          · rw [sI_at, if_neg (by omega)]; exact a5.1
          · rw [sI_at, if_neg (by omega)]; exact a5.2 i hi
          · rw [sI_at, if_neg (by omega)]
          · rw [sI_at, if_neg (by omega)]
        refine go ok_CS_text [73] 60 ?_
        refine xc d ok_Tape_empty (c_Tempty E d _) (by omega) ?_
        rintro r M2 ⟨rfl, rfl⟩
        refine And.intro (fun _ => ?_) (fun e => absurd e (by decide))
        rw [← hN0] at w73
        exact w73 _
    · refine out ?_
      unfold in3
      rw [decide_eq_false (show ¬ nI n ≤ nI c from fun z => absurd ((nI_leI hn (by omega)).mp z) (by omega)), Bool.and_false]
end TX
