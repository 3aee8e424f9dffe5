/-! the class: what its reader writes into a plan -/
theorem sI_self {M : Me} {i r k : Nat} {x : Int32} (h : M.1 i r k = x) : sI M i r k x = M := by
  refine Prod.ext ?_ rfl
  funext a b c
  rw [sI_at]
  by_cases e : a = i ∧ b = r ∧ c = k
  · rw [if_pos e, e.1, e.2.1, e.2.2, h]
  · rw [if_neg e]
def PZc (p i r k : Nat) : Prop := (r = p ∧ ((i = 30 ∧ k = 10) ∨ (i = 31 ∧ k = 5) ∨ (i = 36 ∧ k = 5) ∨ (32 ≤ i ∧ i ≤ 35) ∨ (37 ≤ i ∧ i ≤ 42) ∨ i = 45)) ∨ (i = 44 ∧ p * 8 ≤ r ∧ r < p * 8 + 8)
def FrC (p : Nat) (B B' : Me) : Prop := (∀ i r k, ¬ PZc p i r k → B'.1 i r k = B.1 i r k) ∧ B'.2 = B.2
theorem FrC_rf (p : Nat) (B : Me) : FrC p B B := ⟨fun _ _ _ _ => rfl, rfl⟩
theorem FrC_tr {p : Nat} {A B C : Me} (h : FrC p A B) (h2 : FrC p B C) : FrC p A C := ⟨fun i r k hn => (h2.1 i r k hn).trans (h.1 i r k hn), h2.2.trans h.2⟩
theorem FrC_sI {p : Nat} {B B' : Me} {i r k : Nat} {x : Int32} (h : FrC p B B') (hz : PZc p i r k) : FrC p B (sI B' i r k x) := by
  refine ⟨fun a b c hn => ?_, h.2⟩
  rw [sI_at, if_neg (fun q => hn (by rw [q.1, q.2.1, q.2.2]; exact hz))]
  exact h.1 a b c hn
theorem FrC_setR {p : Nat} {B B' : Me} {i r lo n : Nat} {g : Nat → Int32} (h : FrC p B B') (hz : ∀ k, PZc p i r k) : FrC p B (setR B' i r lo n g) := by
  refine ⟨fun a b c hn => ?_, h.2⟩
  rw [setR_out (fun q => hn (by rw [q.1, q.2.1]; exact hz c))]
  exact h.1 a b c hn
theorem CTp_FrC {T : TT} {p : Nat} {B B' : Me} (h : FrC p B B') (hT : CTp T B) : CTp T B' := by
  obtain ⟨h1, ⟨c, c1, c2, c3, c4⟩, h3⟩ := hT
  refine ⟨h1, ⟨c, ?_, c2, c3, fun k hk => ?_⟩, h3⟩
  · rw [h.1 1 0 1 (by unfold PZc; omega)]; exact c1
  · rw [h.1 2 0 k (by unfold PZc; omega)]; exact c4 k hk
/-- an answer with a fault, or none and the plan written so -/
def BPf (T : TT) (p : Nat) (B B' : Me) (r : Option AV) (M' : Me) : FL ⊕ Nat → Prop
  | .inl q => r = some (vI (nI 0)) ∧ ∃ B1, FrC p B B1 ∧ CMe T B1 (.inl q) M'
  | .inr b => r = some (vI (nI 1)) ∧ CMe T B' (.inr b) M'
def nmR (T : TT) (s : Nat) (nb : Nat → Nat) (b : Nat) : FL ⊕ Nat := bif !decide (tK T b = 2) || own T (.inr b) then .inl (1, b) else bif dupN T s nb b then .inl (3, b) else .inr (tX T b)
def nmB (T : TT) (B : Me) (p s b k : Nat) : Me := setR (sI B 45 p s (nI (tL T b))) 44 (s + p * 8) 0 k (fun i => nI (T.1 (b + i)))
theorem FrC_nmB {T : TT} {B : Me} {p s b k : Nat} (hs : s < 8) : FrC p B (nmB T B p s b k) := by
  unfold nmB
  refine FrC_setR (FrC_sI (FrC_rf _ _) ?_) (fun k => ?_) <;> (unfold PZc; omega)
theorem dupN_t {T : TT} {st : Nat} {nb : Nat → Nat} {b t : Nat} (h : t < st) (e : tW T (nb t) = tW T b) : dupN T st nb b = true := by
  unfold dupN
  exact List.any_eq_true.mpr ⟨t, List.mem_range.mpr h, decide_eq_true e⟩
theorem dupN_f {T : TT} {st : Nat} {nb : Nat → Nat} {b : Nat} (h : ∀ t, t < st → tW T (nb t) ≠ tW T b) : dupN T st nb b = false := by
  cases hc : dupN T st nb b with
  | false => rfl
  | true =>
    unfold dupN at hc
    obtain ⟨t, h1, h2⟩ := List.any_eq_true.mp hc
    exact absurd (of_decide_eq_true h2) (h t (List.mem_range.mp h1))
/-- a place, written -/
def plC (B : Me) (i p k x y z : Nat) : Me := sI (sI (sI B (i + 1) p k (nI x)) (i + 2) p k (nI y)) (i + 3) p k (nI z)
section CR3
variable (E : EV) (d : Nat) {T : TT} {B : Me}
theorem c_Sempty (M : Me) (i p n : Nat) (hn : n = 8 ∧ i = 31 ∨ n = 4 ∧ i = 36) (hm : M.1 i p 4 = nI n) : Mt E d m_Sites_empty [vP i p] M (fun r M' => r = none ∧ M' = setR (sI M i p 5 (nI 0)) (i + 4) p 0 n (fun _ => nI 0)) := by
  have e4 : ∀ k, (setR (sI M i p 5 (nI 0)) (i + 4) p 0 k (fun _ => nI 0)).1 i p 4 = nI n := fun k => by
    rw [setR_out (by omega), sI_at, if_neg (by omega)]; exact hm
  have key : ∀ k, k ≤ n → ∀ N, N = setR (sI M i p 5 (nI 0)) (i + 4) p 0 k (fun _ => nI 0) → Wp E d m_Sites_empty 7 [some (vP i p), some (vI (nI k))] [] N (fun r M' => r = none ∧ M' = setR (sI M i p 5 (nI 0)) (i + 4) p 0 n (fun _ => nI 0)) := by
    refine loopUp n ?_ ?_
    · rintro N rfl
      obtain ⟨rfl, rfl⟩ | ⟨rfl, rfl⟩ := hn
      all_goals
        refine go ok_Sites_empty [] 60 ?_
        refine qLe (e4 _) rfl (by omega) (by omega) (fun _ => ?_) (fun q => absurd q (by omega))
        exact And.intro rfl rfl
    · rintro k hk ih N rfl
      have ih := ih _ rfl
      rw [← setR_step, Nat.zero_add] at ih
      obtain ⟨rfl, rfl⟩ | ⟨rfl, rfl⟩ := hn
      all_goals
        refine go ok_Sites_empty [7] 60 ?_
        refine qLe (e4 _) rfl (by omega) (by omega) (fun q => absurd q (by omega)) (fun _ => ?_)
        refine ix k hk rfl ?_
        exact nm_r (nI_add _ _) ih
  have k0 := key 0 (Nat.zero_le _) _ rfl
  rw [setR_0] at k0
  obtain ⟨rfl, rfl⟩ | ⟨rfl, rfl⟩ := hn
  all_goals
    refine Mt.go ok_Sites_empty [7] 60 rfl ?_
    exact k0
def peM (M : Me) (p : Nat) : Me := setR (sI (setR (sI (sI M 30 p 10 (nI 0)) 31 p 5 (nI 0)) 35 p 0 8 (fun _ => nI 0)) 36 p 5 (nI 0)) 40 p 0 4 (fun _ => nI 0)
theorem c_Pempty (M : Me) (p : Nat) (h1 : M.1 31 p 4 = nI 8) (h2 : M.1 36 p 4 = nI 4) : Mt E (d + 1) m_Plan_empty [vP 30 p] M (fun r M' => r = none ∧ M' = peM M p) := by
  refine Mt.go ok_Plan_empty [] 60 rfl ?_
  refine xc d ok_Sites_empty (c_Sempty E d _ 31 p 8 (by omega) ?_) (by omega) ?_
  · rw [sI_at, if_neg (by omega)]; exact h1
  rintro r M1 ⟨rfl, rfl⟩
  refine xc d ok_Sites_empty (c_Sempty E d _ 36 p 4 (by omega) ?_) (by omega) ?_
  · rw [setR_out (by omega), sI_at, if_neg (by omega), sI_at, if_neg (by omega)]; exact h2
  rintro r M1 ⟨rfl, rfl⟩
  exact And.intro rfl rfl
theorem c_readName {f : Nat → Int32} {b : Nat} (hS : StrOK E) (hT : CTp T B) (p s : Nat) (hs : s < 8) (nb : Nat → Nat) (hn : ∀ t, t < s → NmC T B p t (nb t)) (h : CT T f (.inr b)) : Mt E (d + 7) m_Reader_readName [vP 3 0, vP 30 p, vI (nI s)] (mC B f) (fun r M' => BPf T p B (nmB T B p s b (tL T b)) r M' (nmR T s nb b)) := by
  generalize hQ : (fun r M' => BPf T p B (nmB T B p s b (tL T b)) r M' (nmR T s nb b) : Option AV → Me → Prop) = Q
  obtain ⟨h1, h2, h3, h4, h5, h6, h7, h8, h9⟩ := id h
  have hck := ck_le (T := T) (b := b)
  have t1 := hT.1
  have f15 : (!decide (tK T b = 2) || own T (.inr b)) = true → Wp E (d + 7) m_Reader_readName 15 [some (vP 3 0), some (vP 30 p), some (vI (nI s)), none] [] (mC B f) Q := by
    intro e
    refine go ok_Reader_readName [] 60 ?_
    refine xc d ok_Reader_faulty (c_faulty E d 1 h) (by omega) ?_
    rintro r M' ⟨rfl, hM⟩
    refine And.intro (Or.inl rfl) ?_
    rw [← hQ]
    show BPf _ _ _ _ _ _ (nmR T s nb b)
    unfold nmR
    rw [e]
    exact ⟨rfl, B, FrC_rf _ _, hM⟩
  refine Mt.go ok_Reader_readName [15, 23] 60 rfl ?_
  refine qNe h4 rfl (by omega) (by omega) (fun q => ?_) (fun q => ?_)
  · exact f15 (by rw [decide_eq_false (fun e => q (ck_1.mpr e))]; rfl)
  · have hk := ck_1.mp q
    obtain ⟨l1, l2, l3, l4⟩ := tW_lt2 hk
    have hbe := tE_le (T := T) h2
    refine xq (d + 6) ok_Reader_isOwnWord (c_isOwnWord E d hS hT h) (by omega) ?_
    refine brF (fun c => ?_) (fun c => ?_)
    · have eo : (!decide (tK T b = 2) || own T (.inr b)) = false := by rw [c, decide_eq_true hk]; rfl
      -- the letters
      have l61 : dupN T s nb b = false → ∀ k, k ≤ tL T b → ∀ N, N = mC (nmB T B p s b k) f → Wp E (d + 7) m_Reader_readName 61 [some (vP 3 0), some (vP 30 p), some (vI (nI s)), some (vI (nI k))] [] N Q := by
        intro hd
        refine loopUp (tL T b) ?_ ?_
        · rintro N rfl
          refine go ok_Reader_readName [] 60 ?_
          refine qLe h6 rfl (by omega) (by omega) (fun _ => ?_) (fun q => absurd q (by omega))
          refine xc (d + 1) ok_Reader_nextToken (c_nextToken E d (CTp_FrC (FrC_nmB hs) hT) h) (by omega) ?_
          rintro r M' ⟨rfl, hM⟩
          refine And.intro (Or.inr rfl) ?_
          rw [← hQ]
          show BPf _ _ _ _ _ _ (nmR T s nb b)
          unfold nmR
          rw [eo, hd]
          exact ⟨rfl, hM⟩
        · rintro k hkl ih N rfl
          have hx := c_byteAt E d (f := f) (CTp_FrC (FrC_nmB (T := T) (p := p) (b := b) (k := k) hs) hT) (b + k) (by omega)
          rw [← nI_s8, ← h5] at hx
          have ih := ih _ rfl
          unfold nmB at ih
          rw [← setR_step, ← mC_sIo (by omega), Nat.zero_add] at ih
          refine go ok_Reader_readName [61] 60 ?_
          refine qLe h6 rfl (by omega) (by omega) (fun q => absurd q (by omega)) (fun _ => ?_)
          refine cLe (by omega) (by omega) (fun q => absurd q (by omega)) (fun _ => ?_)
          refine ix s hs rfl ?_
          refine xq d ok_Tape_byteAt hx (by omega) ?_
          refine ix k (show _ < 8 by omega) rfl ?_
          exact nm_r (nI_add _ _) ih
      -- the names before it
      have l23 : ∀ t, t ≤ s → (∀ j, j < t → tW T (nb j) ≠ tW T b) → Wp E (d + 7) m_Reader_readName 23 [some (vP 3 0), some (vP 30 p), some (vI (nI s)), some (vI (nI t))] [] (mC B f) Q := by
        refine loopUp s ?_ ?_
        · intro hall
          refine go ok_Reader_readName [61] 60 ?_
          refine cLe (by omega) (by omega) (fun _ => ?_) (fun q => absurd q (by omega))
          refine ix s hs rfl ?_
          have := l61 (dupN_f hall) 0 (Nat.zero_le _) _ rfl
          unfold nmB at this
          rw [setR_0, ← mC_sIo (by omega), ← h6] at this
          exact this
        · intro t ht ih hall
          refine go ok_Reader_readName [23] 60 ?_
          refine cLe (by omega) (by omega) (fun q => absurd q (by omega)) (fun _ => ?_)
          refine xq (d + 1) ok_Reader_isName (c_isName E d hT p t (nb t) (by omega) (hn t ht) h hk) (by omega) ?_
          refine brF (fun c => ?_) (fun c => ?_)
          · refine nm_r (nI_add _ _) (ih (fun j hj => ?_))
            by_cases e : j = t
            · rw [e]; exact of_decide_eq_false c
            · exact hall j (by omega)
          · refine xc d ok_Reader_faulty (c_faulty E d 3 h) (by omega) ?_
            rintro r M' ⟨rfl, hM⟩
            refine And.intro (Or.inl rfl) ?_
            rw [← hQ]
            show BPf _ _ _ _ _ _ (nmR T s nb b)
            unfold nmR
            rw [eo, dupN_t ht (of_decide_eq_true c)]
            exact ⟨rfl, B, FrC_rf _ _, hM⟩
      exact l23 0 (Nat.zero_le _) (fun j hj => absurd hj (Nat.not_lt_zero _))
    · exact f15 (by rw [c, Bool.or_true])
theorem c_readPlace {f : Nat → Int32} {b : Nat} (hS : StrOK E) (hT : CTp T B) (i p n k : Nat) (hn : n = 8 ∧ i = 31 ∨ n = 4 ∧ i = 36) (hm : B.1 i p 4 = nI n) (hk : k < n) (h : CT T f (.inr b)) : Mt E (d + 7) m_Reader_readPlace [vP 3 0, vP i p, vI (nI k)] (mC B f) (fun r M' => BPf T p B (plC B i p k (plX T b) (plY T b) (plZ T b)) r M' (plcR T (.inr b))) := by
  generalize hQ : (fun r M' => BPf T p B (plC B i p k (plX T b) (plY T b) (plZ T b)) r M' (plcR T (.inr b)) : Option AV → Me → Prop) = Q
  have bad : ∀ q, plcR T (.inr b) = .inl q → ∀ B1, FrC p B B1 → ∀ M', CMe T B1 (.inl q) M' → Q (some (vI (nI 0))) M' := by
    intro q e B1 hF M' hM
    rw [← hQ]
    show BPf _ _ _ _ _ _ (plcR T (.inr b))
    rw [e]
    exact ⟨rfl, B1, hF, hM⟩
  have hz : ∀ j, 1 ≤ j → j ≤ 3 → PZc p (i + j) p k := fun j h1 h2 => by unfold PZc; omega
  have hp0 : plcR T (.inr b) = nxt (whl T 1 60 (ned T 3 (nxt (whl T 0 99 (nxt (whl T 0 99 (ned T 2 (.inr b)))))))) := rfl
  have hi : i = 31 ∨ i = 36 := by omega
  have hn8 : n ≤ 8 := by omega
  -- from the third number on
  have s3 : ∀ b1 f1 B1, FrC p B B1 → plcR T (.inr b) = nxt (whl T 1 60 (.inr b1)) → plC B i p k (plX T b) (plY T b) (tN3 T b1) = sI B1 (i + 3) p k (nI (tN3 T b1)) → (∀ z, whl T 1 60 (.inr b1) = .inr z → plZ T b = tN3 T b1) → CT T f1 (.inr b1) → Wp E (d + 7) m_Reader_readPlace 74 [some (vP 3 0), some (vP i p), some (vI (nI k))] [] (mC B1 f1) Q := by
    intro b1 f1 B1 hF hp hC hz3 k1
    have hT1 := CTp_FrC hF hT
    cases hw : whl T 1 60 (.inr b1) with
    | inl q =>
      rw [hw] at hp
      obtain rfl | rfl := hi
      all_goals
        refine go ok_Reader_readPlace [] 60 ?_
        refine xc (d + 1) ok_Reader_isWhole (c_isWhole E d 1 60 (by omega) (by omega) k1) (by omega) ?_
        rintro r M2 h2
        rw [hw] at h2
        obtain ⟨rfl, hM⟩ := h2
        refine And.intro (fun e => absurd rfl e) (fun _ => And.intro (Or.inl rfl) ?_)
        exact bad q hp _ hF _ hM
    | inr z =>
      obtain ⟨b0, e0, ez, kk, lo, hi'⟩ := whl_inr hw
      cases e0
      rw [hw, ez] at hp
      have hz3 := hz3 _ hw
      obtain rfl | rfl := hi
      all_goals
        refine go ok_Reader_readPlace [] 60 ?_
        refine xc (d + 1) ok_Reader_isWhole (c_isWhole E d 1 60 (by omega) (by omega) k1) (by omega) ?_
        rintro r M2 h2
        rw [hw] at h2
        obtain ⟨rfl, rfl⟩ := h2
        refine And.intro (fun _ => ?_) (fun e => absurd e (by decide))
        refine xc (d + 2) ok_Reader_taken (c_taken E d hT1 k1 kk) (by omega) ?_
        rintro r M3 ⟨rfl, f3, rfl, k3⟩
        refine ix k (by first | exact (show k < 4 by omega) | exact (show k < 8 by omega)) rfl ?_
        refine And.intro (Or.inr rfl) ?_
        rw [← hQ]
        show BPf _ _ _ _ _ _ (plcR T (.inr b))
        rw [hp, hz3]
        refine ⟨rfl, f3, ?_, k3⟩
        rw [hC]
        exact mC_sIo (by omega)
  have s2 : ∀ b1 f1 B1, FrC p B B1 → plcR T (.inr b) = nxt (whl T 1 60 (ned T 3 (nxt (whl T 0 99 (.inr b1))))) → B1 = sI B (i + 1) p k (nI (plX T b)) → b1 = tX T (tX T b) → CT T f1 (.inr b1) → Wp E (d + 7) m_Reader_readPlace 43 [some (vP 3 0), some (vP i p), some (vI (nI k))] [] (mC B1 f1) Q := by
    intro b1 f1 B1 hF hp hB1 hb1 k1
    have hT1 := CTp_FrC hF hT
    cases hw : whl T 0 99 (.inr b1) with
    | inl q =>
      rw [hw] at hp
      obtain rfl | rfl := hi
      all_goals
        refine go ok_Reader_readPlace [] 60 ?_
        refine xc (d + 1) ok_Reader_isWhole (c_isWhole E d 0 99 (by omega) (by omega) k1) (by omega) ?_
        rintro r M2 h2
        rw [hw] at h2
        obtain ⟨rfl, hM⟩ := h2
        refine And.intro (fun e => absurd rfl e) (fun _ => And.intro (Or.inl rfl) ?_)
        exact bad q hp _ hF _ hM
    | inr z =>
      obtain ⟨b0, e0, ez, kk, lo, hi'⟩ := whl_inr hw
      cases e0
      rw [hw, ez] at hp
      have hp : plcR T (.inr b) = nxt (whl T 1 60 (ned T 3 (.inr (tX T b1)))) := hp
      have hF2 : FrC p B (sI B1 (i + 2) p k (nI (tN3 T b1))) := FrC_sI hF (hz 2 (by omega) (by omega))
      have hT2 := CTp_FrC hF2 hT
      have hpw := fun f3 (k3 : CT T f3 (.inr (tX T b1))) => c_passWord E d (f := f3) hS hT2 3 (by omega) k3
      have rest : ∀ r M4, BPs T (sI B1 (i + 2) p k (nI (tN3 T b1))) r M4 (ned T 3 (.inr (tX T b1))) → (∃ q, r = some (vI (nI 0)) ∧ plcR T (.inr b) = .inl q ∧ CMe T (sI B1 (i + 2) p k (nI (tN3 T b1))) (.inl q) M4) ∨ (∃ b5 f5, r = some (vI (nI 1)) ∧ M4 = mC (sI B1 (i + 2) p k (nI (tN3 T b1))) f5 ∧ Wp E (d + 7) m_Reader_readPlace 74 [some (vP 3 0), some (vP i p), some (vI (nI k))] [] (mC (sI B1 (i + 2) p k (nI (tN3 T b1))) f5) Q ∧ CT T f5 (.inr b5)) := by
        intro r M4 h4
        cases hw2 : ned T 3 (.inr (tX T b1)) with
        | inl q =>
          rw [hw2] at h4 hp
          exact Or.inl ⟨q, h4.1, hp, h4.2⟩
        | inr b5 =>
          rw [hw2] at h4 hp
          obtain ⟨rfl, f5, rfl, k5⟩ := h4
          obtain ⟨b6, e6, w6, x6⟩ := ned_inr hw2
          cases e6
          refine Or.inr ⟨b5, f5, rfl, rfl, s3 b5 f5 _ hF2 hp ?_ (fun z' e => ?_) k5, k5⟩
          · unfold plC
            rw [hB1]
            unfold plY
            rw [hb1]
          · unfold plZ
            rw [x6, hb1]
      obtain rfl | rfl := hi
      all_goals
        refine go ok_Reader_readPlace [74] 60 ?_
        refine xc (d + 1) ok_Reader_isWhole (c_isWhole E d 0 99 (by omega) (by omega) k1) (by omega) ?_
        rintro r M2 h2
        rw [hw] at h2
        obtain ⟨rfl, rfl⟩ := h2
        refine And.intro (fun _ => ?_) (fun e => absurd e (by decide))
        refine xc (d + 2) ok_Reader_taken (c_taken E d hT1 k1 kk) (by omega) ?_
        rintro r M3 ⟨rfl, f3, rfl, k3⟩
        refine ix k (by first | exact (show k < 4 by omega) | exact (show k < 8 by omega)) rfl ?_
        have hpw := hpw f3 k3
        rw [← mC_sIo (by omega)] at hpw
        refine xc (d + 6) ok_Reader_passWord hpw (by omega) ?_
        rintro r M4 h4
        obtain ⟨q, rfl, e4, hM4⟩ | ⟨b5, f5, rfl, rfl, hW, k5⟩ := rest r M4 h4
        · refine And.intro (fun _ => And.intro (Or.inl rfl) ?_) (fun e => absurd rfl e)
          exact bad q e4 _ hF2 _ hM4
        · refine And.intro (fun e => absurd e (by decide)) (fun _ => ?_)
          exact hW
  -- the first number
  cases h1 : ned T 2 (.inr b) with
  | inl q =>
    rw [h1] at hp0
    obtain ⟨rfl, rfl⟩ | ⟨rfl, rfl⟩ := hn
    all_goals
      refine Mt.go ok_Reader_readPlace [] 60 rfl ?_
      refine cLt (by omega) (by omega) (fun q => absurd q (by omega)) (fun _ => ?_)
      refine qLe hm rfl (by omega) (by omega) (fun q => absurd q (by omega)) (fun _ => ?_)
      refine xc (d + 6) ok_Reader_passWord (c_passWord E d hS hT 2 (by omega) h) (by omega) ?_
      rintro r M1 h2
      rw [h1] at h2
      obtain ⟨rfl, hM⟩ := h2
      refine And.intro (fun _ => And.intro (Or.inl rfl) ?_) (fun e => absurd rfl e)
      exact bad q hp0 _ (FrC_rf _ _) _ hM
  | inr b1 =>
    rw [h1] at hp0
    obtain ⟨b6, e6, w6, x6⟩ := ned_inr h1
    cases e6
    cases hw : whl T 0 99 (.inr b1) with
    | inl q =>
      rw [hw] at hp0
      obtain ⟨rfl, rfl⟩ | ⟨rfl, rfl⟩ := hn
      all_goals
        refine Mt.go ok_Reader_readPlace [] 60 rfl ?_
        refine cLt (by omega) (by omega) (fun q => absurd q (by omega)) (fun _ => ?_)
        refine qLe hm rfl (by omega) (by omega) (fun q => absurd q (by omega)) (fun _ => ?_)
        refine xc (d + 6) ok_Reader_passWord (c_passWord E d hS hT 2 (by omega) h) (by omega) ?_
        rintro r M1 h2
        rw [h1] at h2
        obtain ⟨rfl, f1, rfl, k1⟩ := h2
        refine And.intro (fun e => absurd e (by decide)) (fun _ => ?_)
        refine xc (d + 1) ok_Reader_isWhole (c_isWhole E d 0 99 (by omega) (by omega) k1) (by omega) ?_
        rintro r M2 h2
        rw [hw] at h2
        obtain ⟨rfl, hM⟩ := h2
        refine And.intro (fun e => absurd rfl e) (fun _ => And.intro (Or.inl rfl) ?_)
        exact bad q hp0 _ (FrC_rf _ _) _ hM
    | inr z =>
      obtain ⟨b0, e0, ez, kk, lo, hi'⟩ := whl_inr hw
      cases e0
      rw [hw, ez] at hp0
      have eX : plX T b = tN3 T b1 := by unfold plX; rw [x6]
      have go2 := fun f3 (k3 : CT T f3 (.inr (tX T b1))) => s2 (tX T b1) f3 (sI B (i + 1) p k (nI (tN3 T b1))) (FrC_sI (FrC_rf _ _) (hz 1 (by omega) (by omega))) hp0 (by rw [eX]) (by rw [x6]) k3
      obtain ⟨rfl, rfl⟩ | ⟨rfl, rfl⟩ := hn
      all_goals
        refine Mt.go ok_Reader_readPlace [43] 60 rfl ?_
        refine cLt (by omega) (by omega) (fun q => absurd q (by omega)) (fun _ => ?_)
        refine qLe hm rfl (by omega) (by omega) (fun q => absurd q (by omega)) (fun _ => ?_)
        refine xc (d + 6) ok_Reader_passWord (c_passWord E d hS hT 2 (by omega) h) (by omega) ?_
        rintro r M1 h2
        rw [h1] at h2
        obtain ⟨rfl, f1, rfl, k1⟩ := h2
        refine And.intro (fun e => absurd e (by decide)) (fun _ => ?_)
        refine xc (d + 1) ok_Reader_isWhole (c_isWhole E d 0 99 (by omega) (by omega) k1) (by omega) ?_
        rintro r M2 h2
        rw [hw] at h2
        obtain ⟨rfl, rfl⟩ := h2
        refine And.intro (fun _ => ?_) (fun e => absurd e (by decide))
        refine xc (d + 2) ok_Reader_taken (c_taken E d hT k1 kk) (by omega) ?_
        rintro r M3 ⟨rfl, f3, rfl, k3⟩
        refine ix k hk rfl ?_
        have := go2 f3 k3
        rw [← mC_sIo (by omega)] at this
        exact this
end CR3
