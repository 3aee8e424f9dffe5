/-! the class: who disturbs whom in a plan -/
def kCl (M : Me) (p s t : Nat) : Bool := decide (cFar M 31 p t (M.1 32 p s) (M.1 33 p s) ≤ (M.1 34 p s + M.1 34 p t) * (M.1 34 p s + M.1 34 p t))
def kMx (M : Me) (p s t : Nat) : Int32 := if M.1 34 p s < M.1 34 p t then M.1 34 p t else M.1 34 p s
def kBr (M : Me) (p s t : Nat) : Bool := decide (cFar M 31 p t (M.1 32 p s) (M.1 33 p s) ≤ kMx M p s t * kMx M p s t)
def kBo (M : Me) (p b s : Nat) : Bool := decide (cFar M 36 p b (M.1 32 p s) (M.1 33 p s) ≤ M.1 39 p b * M.1 39 p b)
def pA (M : Me) (q p s t : Nat) (c : Bool) : Me := bif c then sI (sI M q p s (M.1 q p s ||| b1 t)) q p t ((sI M q p s (M.1 q p s ||| b1 t)).1 q p t ||| b1 s) else M
def fpM (M : Me) (p s t : Nat) : Me := pA (pA M 46 p s t (kCl M p s t)) 47 p s t (kBr M p s t)
def ofP (s k : Nat) (f : Nat → Nat → Bool) (i t : Nat) : Bool := (decide (t < i) && ((decide (i < s) || (decide (i = s) && decide (t < k))) && f i t)) || (decide (i < t) && ((decide (t < s) || (decide (t = s) && decide (i < k))) && f t i))
theorem ofP_i {s k : Nat} {f : Nat → Nat → Bool} {i t : Nat} : ofP s k f i t = true ↔ (t < i ∧ (i < s ∨ i = s ∧ t < k) ∧ f i t = true) ∨ (i < t ∧ (t < s ∨ t = s ∧ i < k) ∧ f t i = true) := by
  unfold ofP
  simp only [Bool.or_eq_true, Bool.and_eq_true, decide_eq_true_eq]
theorem ofP_st {s k : Nat} {f : Nat → Nat → Bool} {i t : Nat} (h : k < s) : ofP s (k + 1) f i t = (ofP s k f i t || (f s k && ((decide (i = s) && decide (t = k)) || (decide (i = k) && decide (t = s))))) := by
  rw [Bool.eq_iff_iff, Bool.or_eq_true, ofP_i, ofP_i]
  simp only [Bool.or_eq_true, Bool.and_eq_true, decide_eq_true_eq]
  constructor
  · rintro (⟨h1, h2, h3⟩ | ⟨h1, h2, h3⟩)
    · by_cases e : i = s ∧ t = k
      · obtain ⟨rfl, rfl⟩ := e
        exact Or.inr ⟨h3, Or.inl ⟨rfl, rfl⟩⟩
      · exact Or.inl (Or.inl ⟨h1, by omega, h3⟩)
    · by_cases e : t = s ∧ i = k
      · obtain ⟨rfl, rfl⟩ := e
        exact Or.inr ⟨h3, Or.inr ⟨rfl, rfl⟩⟩
      · exact Or.inl (Or.inr ⟨h1, by omega, h3⟩)
  · rintro ((⟨h1, h2, h3⟩ | ⟨h1, h2, h3⟩) | ⟨h4, (⟨rfl, rfl⟩ | ⟨rfl, rfl⟩)⟩)
    · exact Or.inl ⟨h1, by omega, h3⟩
    · exact Or.inr ⟨h1, by omega, h3⟩
    · exact Or.inl ⟨by omega, by omega, h4⟩
    · exact Or.inr ⟨by omega, by omega, h4⟩
theorem ofP_nx {s : Nat} {f : Nat → Nat → Bool} {i t : Nat} : ofP s s f i t = ofP (s + 1) 0 f i t := by
  rw [Bool.eq_iff_iff, ofP_i, ofP_i]
  constructor
  · rintro (⟨h1, h2, h3⟩ | ⟨h1, h2, h3⟩)
    · exact Or.inl ⟨h1, by omega, h3⟩
    · exact Or.inr ⟨h1, by omega, h3⟩
  · rintro (⟨h1, h2, h3⟩ | ⟨h1, h2, h3⟩)
    · exact Or.inl ⟨h1, by omega, h3⟩
    · exact Or.inr ⟨h1, by omega, h3⟩
theorem ofP_0 {f : Nat → Nat → Bool} {i t : Nat} : ofP 0 0 f i t = false := by
  cases hc : ofP 0 0 f i t with
  | false => rfl
  | true =>
    rw [ofP_i] at hc
    omega
theorem pA_at (M : Me) (q p s t : Nat) (c : Bool) (hst : s ≠ t) (a r k : Nat) : (pA M q p s t c).1 a r k = if a = q ∧ r = p ∧ (k = s ∨ k = t) then (bif c then M.1 q p k ||| b1 (if k = s then t else s) else M.1 q p k) else M.1 a r k := by
  cases c with
  | false =>
    show M.1 a r k = if _ then M.1 q p k else _
    by_cases h : a = q ∧ r = p ∧ (k = s ∨ k = t)
    · rw [if_pos h, h.1, h.2.1]
    · rw [if_neg h]
  | true =>
    show (sI (sI M q p s (M.1 q p s ||| b1 t)) q p t ((sI M q p s (M.1 q p s ||| b1 t)).1 q p t ||| b1 s)).1 a r k = if _ then M.1 q p k ||| b1 (if k = s then t else s) else _
    rw [sI_at, sI_at, sI_at, if_neg (show ¬ (q = q ∧ p = p ∧ t = s) from fun z => hst z.2.2.symm)]
    by_cases h1 : a = q ∧ r = p ∧ k = t
    · obtain ⟨rfl, rfl, rfl⟩ := h1
      rw [if_pos ⟨rfl, rfl, rfl⟩, if_pos ⟨rfl, rfl, Or.inr rfl⟩, if_neg (fun z => hst z.symm)]
    · rw [if_neg h1]
      by_cases h2 : a = q ∧ r = p ∧ k = s
      · obtain ⟨rfl, rfl, rfl⟩ := h2
        rw [if_pos ⟨rfl, rfl, rfl⟩, if_pos ⟨rfl, rfl, Or.inl rfl⟩, if_pos rfl]
      · rw [if_neg h2, if_neg (fun z => z.2.2.elim (fun e => h2 ⟨z.1, z.2.1, e⟩) (fun e => h1 ⟨z.1, z.2.1, e⟩))]
theorem pA_2 (M : Me) (q p s t : Nat) (c : Bool) : (pA M q p s t c).2 = M.2 := by cases c <;> rfl
def opB (M : Me) (p s k i : Nat) : Bool := (List.range k).all (fun b => !(kBo M p b s && bt (M.1 40 p b) i))
theorem opB_s (M : Me) (p s k i : Nat) : opB M p s (k + 1) i = (opB M p s k i && !(kBo M p k s && bt (M.1 40 p k) i)) := by
  unfold opB
  rw [List.range_succ, List.all_append]
  simp
def FbP (M : Me) (p s m : Nat) (N : Me) : Prop := (∀ i r k, ¬ (r = p ∧ (i = 48 ∨ i = 49)) → N.1 i r k = M.1 i r k) ∧ N.2 = M.2 ∧ (∀ b, N.1 48 p b = bif decide (b < m) && kBo M p b s then M.1 48 p b ||| b1 s else M.1 48 p b) ∧ ∀ i, N.1 49 p i = if i = s then S32 (fun j => bt (M.1 49 p s) j && opB M p s m j) else M.1 49 p i
def NbI (M : Me) (p n m C a s k : Nat) (N : Me) : Prop := (∀ i r j, ¬ (r = p ∧ 46 ≤ i ∧ i ≤ 49) → N.1 i r j = M.1 i r j) ∧ N.2 = M.2 ∧ (∀ i, i < 8 → N.1 46 p i = S32 (ofP s k (kCl M p) i) ∧ N.1 47 p i = S32 (ofP s k (kBr M p) i)) ∧ (∀ b, b < 4 → N.1 48 p b = S32 (fun t => decide (t < a) && (decide (b < m) && kBo M p b t))) ∧ ∀ i, i < 8 → N.1 49 p i = S32 (fun j => decide (i < n) && (decide (j < C) && (!decide (i < a) || opB M p i m j)))
theorem kk_cg {M N : Me} {p : Nat} (e : ∀ i j, 31 ≤ i → i ≤ 40 → N.1 i p j = M.1 i p j) : (∀ i t, kCl N p i t = kCl M p i t) ∧ (∀ i t, kBr N p i t = kBr M p i t) ∧ (∀ b t, kBo N p b t = kBo M p b t) ∧ ∀ t k j, opB N p t k j = opB M p t k j := by
  have e3 : ∀ b t, kBo N p b t = kBo M p b t := fun b t => by
    unfold kBo cFar
    rw [e 32 t (by omega) (by omega), e 33 t (by omega) (by omega), e (36 + 1) b (by omega) (by omega), e (36 + 2) b (by omega) (by omega), e 39 b (by omega) (by omega)]
  refine ⟨fun i t => ?_, fun i t => ?_, e3, fun t k j => ?_⟩
  · unfold kCl cFar
    rw [e 32 i (by omega) (by omega), e 33 i (by omega) (by omega), e (31 + 1) t (by omega) (by omega), e (31 + 2) t (by omega) (by omega), e 34 i (by omega) (by omega), e 34 t (by omega) (by omega)]
  · unfold kBr kMx cFar
    rw [e 32 i (by omega) (by omega), e 33 i (by omega) (by omega), e (31 + 1) t (by omega) (by omega), e (31 + 2) t (by omega) (by omega), e 34 i (by omega) (by omega), e 34 t (by omega) (by omega)]
  · unfold opB
    congr 1
    funext b
    rw [e3, e 40 b (by omega) (by omega)]
theorem NbI_tr {M N M' : Me} {p n m C a s k : Nat} (h : NbI M p n m C a s k N) (e1 : ∀ i j, 31 ≤ i → i ≤ 40 → M'.1 i p j = M.1 i p j) (e2 : ∀ i j, 46 ≤ i → i ≤ 49 → M'.1 i p j = N.1 i p j) : NbI M' p n m C a s k M' := by
  obtain ⟨k1, k2, k3, k4⟩ := kk_cg e1
  obtain ⟨h1, h2, h3, h4, h5⟩ := h
  refine ⟨fun _ _ _ _ => rfl, rfl, fun i hi => ⟨?_, ?_⟩, fun b hb => ?_, fun i hi => ?_⟩
  · rw [e2 46 i (by omega) (by omega), (h3 i hi).1]
    have : kCl M' p = kCl M p := by funext i t; exact k1 i t
    rw [this]
  · rw [e2 47 i (by omega) (by omega), (h3 i hi).2]
    have : kBr M' p = kBr M p := by funext i t; exact k2 i t
    rw [this]
  · rw [e2 48 b (by omega) (by omega), h4 b hb]
    congr 1
    funext t
    rw [k3]
  · rw [e2 49 i (by omega) (by omega), h5 i hi]
    congr 1
    funext j
    rw [k4]
section NB
variable (E : EV) (d : Nat)
theorem c_findPair (M : Me) (p s t : Nat) (hs : s < 8) (ht : t < 8) (h4 : M.1 31 p 4 = nI 8) : Mt E (d + 1) m_Plan_findPair [vP 30 p, vI (nI s), vI (nI t)] M (fun r M' => r = none ∧ M' = fpM M p s t) := by
  have w106 : ∀ l4, Wp E (d + 1) m_Plan_findPair 106 [some (vP 30 p), some (vI (nI s)), some (vI (nI t)), some (vI (cFar M 31 p t (M.1 32 p s) (M.1 33 p s))), some (vI l4), some (vI (kMx M p s t))] [] (pA M 46 p s t (kCl M p s t)) (fun r M' => r = none ∧ M' = fpM M p s t) := by
    intro l4
    unfold fpM
    generalize pA M 46 p s t (kCl M p s t) = N
    refine go ok_Plan_findPair [] 60 ?_
    refine And.intro (fun q => ?_) (fun q => ?_)
    · refine And.intro rfl ?_
      have : kBr M p s t = false := decide_eq_false (Int32.not_le.mpr q)
      rw [this]; rfl
    · have : kBr M p s t = true := decide_eq_true (Int32.not_lt.mp q)
      rw [this]
      refine ix s hs rfl ?_
      refine xq d ok_CS_bit (c_bit E d _ t) (by omega) ?_
      refine ix s hs rfl ?_
      refine ix t ht rfl ?_
      refine xq d ok_CS_bit (c_bit E d _ s) (by omega) ?_
      refine ix t ht rfl ?_
      exact And.intro rfl rfl
  refine Mt.go ok_Plan_findPair [106] 200 rfl ?_
  refine ix s hs rfl ?_
  refine ix s hs rfl ?_
  refine xq d ok_Sites_farFrom (c_farFrom E d M 31 p (Or.inl rfl) 8 (Or.inl ⟨rfl, rfl⟩) h4 t ht _ _) (by omega) ?_
  refine ix s hs rfl ?_
  refine ix t ht rfl ?_
  refine ix s hs rfl ?_
  refine ix t ht rfl ?_
  refine And.intro (fun q => ?_) (fun q => ?_)
  · have : kCl M p s t = false := decide_eq_false (Int32.not_le.mpr q)
    rw [this] at w106
    exact w106 _
  · have : kCl M p s t = true := decide_eq_true (Int32.not_lt.mp q)
    rw [this] at w106
    refine ix s hs rfl ?_
    refine xq d ok_CS_bit (c_bit E d _ t) (by omega) ?_
    refine ix s hs rfl ?_
    refine ix t ht rfl ?_
    refine xq d ok_CS_bit (c_bit E d _ s) (by omega) ?_
    refine ix t ht rfl ?_
    exact w106 _
theorem c_findBorders (M : Me) (p s m : Nat) (hs : s < 8) (h4 : M.1 36 p 4 = nI 4) (hm : M.1 36 p 5 = nI m) (hm4 : m ≤ 4) : Mt E (d + 2) m_Plan_findBorders [vP 30 p, vI (nI s)] M (fun r N => r = none ∧ FbP M p s m N) := by
  have key : ∀ k, k ≤ m → ∀ N, FbP M p s k N → Wp E (d + 2) m_Plan_findBorders 28 [some (vP 30 p), some (vI (nI s)), some (vI (mkS (fun k => kBo M p k s) m)), some (vI (nI k))] [] N (fun r N => r = none ∧ FbP M p s m N) := by
    refine loopUp m ?_ ?_
    · intro N hN
      have e5 : N.1 36 p 5 = nI m := by rw [hN.1 36 p 5 (by omega)]; exact hm
      refine go ok_Plan_findBorders [28] 60 ?_
      refine qLe e5 rfl (by omega) (by omega) (fun _ => ?_) (fun q => absurd q (by omega))
      exact And.intro rfl hN
    · intro k hk ih N hN
      have e5 : N.1 36 p 5 = nI m := by rw [hN.1 36 p 5 (by omega)]; exact hm
      have hb : bt (mkS (fun k => kBo M p k s) m) k = kBo M p k s := by
        rw [mkS_at _ _ _ (by omega) (by omega), decide_eq_true hk, Bool.true_and]
      obtain ⟨n1, n2, n3, n4⟩ := hN
      refine go ok_Plan_findBorders [28] 60 ?_
      refine qLe e5 rfl (by omega) (by omega) (fun q => absurd q (by omega)) (fun _ => ?_)
      refine xq d ok_CS_has (c_has E d _ _ k (by omega)) (by omega) ?_
      rw [hb]
      refine brF (fun c => ?_) (fun c => ?_)
      · refine nm_r (nI_add _ _) (ih N ⟨n1, n2, fun b => ?_, fun i => ?_⟩)
        · rw [n3 b]
          by_cases e : b = k
          · rw [e, c, Bool.and_false, Bool.and_false]
          · rw [show decide (b < k + 1) = decide (b < k) by rw [decide_eq_decide]; omega]
        · rw [n4 i]
          by_cases e : i = s
          · rw [if_pos e, if_pos e]
            refine S32_eq fun j hj => ?_
            rw [S32_at hj, opB_s, c]
            simp
          · rw [if_neg e, if_neg e]
      · refine ix k (show _ < 4 by omega) rfl ?_
        refine xq d ok_CS_bit (c_bit E d _ s) (by omega) ?_
        refine ix k (show _ < 4 by omega) rfl ?_
        refine ix s hs rfl ?_
        refine ix k (show _ < 4 by omega) rfl ?_
        refine ix s hs rfl ?_
        refine nm_r (nI_add _ _) (ih _ ⟨fun i r j hn => ?_, ?_, fun b => ?_, fun i => ?_⟩)
        · rw [sI_at, if_neg (by omega), sI_at, if_neg (by omega)]
          exact n1 i r j hn
        · exact n2
        · rw [sI_at, if_neg (by omega), sI_at]
          by_cases e : b = k
          · rw [e, if_pos ⟨rfl, rfl, rfl⟩, n3 k, c, decide_eq_false (Nat.lt_irrefl k), decide_eq_true (Nat.lt_succ_self k)]
            rfl
          · rw [if_neg (fun z => e z.2.2), n3 b, show decide (b < k + 1) = decide (b < k) by rw [decide_eq_decide]; omega]
        · rw [sI_at]
          by_cases e : i = s
          · rw [if_pos ⟨rfl, rfl, e⟩, if_pos e, sI_at, if_neg (by omega), sI_at, if_neg (by omega), n4 s, if_pos rfl, n1 40 p k (by omega)]
            refine S32_eq fun j hj => ?_
            rw [b_and, S32_at hj, b_not hj, opB_s, c, Bool.true_and, Bool.and_assoc]
          · rw [if_neg (fun z => e z.2.2), if_neg e, sI_at, if_neg (by omega), n4 i, if_neg e]
  refine Mt.go ok_Plan_findBorders [28] 60 rfl ?_
  refine ix s hs rfl ?_
  refine ix s hs rfl ?_
  refine xq (d + 1) ok_Sites_reaching (c_reaching E d M 36 p (Or.inr rfl) 4 (Or.inr ⟨rfl, rfl⟩) h4 m hm hm4 _ _) (by omega) ?_
  refine key 0 (Nat.zero_le _) M ⟨fun _ _ _ _ => rfl, rfl, fun b => ?_, fun i => ?_⟩
  · rw [decide_eq_false (Nat.not_lt_zero b)]; rfl
  · by_cases e : i = s
    · rw [if_pos e, e]
      refine S32_eq fun j hj => ?_
      show _ = (_ && true)
      rw [Bool.and_true]
    · rw [if_neg e]
theorem c_findNeighbours (M : Me) (p n m C : Nat) (h4 : M.1 31 p 4 = nI 8) (h4' : M.1 36 p 4 = nI 4) (hn : M.1 31 p 5 = nI n) (hn8 : n ≤ 8) (hm : M.1 36 p 5 = nI m) (hm4 : m ≤ 4) (hC : M.1 30 p 10 = nI C) (hC10 : C ≤ 10) : Mt E (d + 3) m_Plan_findNeighbours [vP 30 p] M (fun r N => r = none ∧ NbI M p n m C n n 0 N) := by
  have g1 : ∀ {a s k N}, NbI M p n m C a s k N → N.1 31 p 4 = nI 8 ∧ N.1 36 p 4 = nI 4 ∧ N.1 31 p 5 = nI n ∧ N.1 36 p 5 = nI m := by
    intro a s k N h
    refine ⟨?_, ?_, ?_, ?_⟩
    · rw [h.1 31 p 4 (by omega)]; exact h4
    · rw [h.1 36 p 4 (by omega)]; exact h4'
    · rw [h.1 31 p 5 (by omega)]; exact hn
    · rw [h.1 36 p 5 (by omega)]; exact hm
  -- the same numbers of both
  have gk : ∀ {a s k N}, NbI M p n m C a s k N → (∀ i t, kCl N p i t = kCl M p i t) ∧ (∀ i t, kBr N p i t = kBr M p i t) ∧ (∀ b t, kBo N p b t = kBo M p b t) ∧ ∀ t k j, opB N p t k j = opB M p t k j := by
    intro a s k N h
    exact kk_cg (fun i j h1 h2 => h.1 i p j (by omega))
  -- the stations
  have l80 : ∀ s, s ≤ n → ∀ N, NbI M p n m C s s 0 N → ∀ l2, Wp E (d + 3) m_Plan_findNeighbours 80 [some (vP 30 p), some (vI (nI s)), l2] [] N (fun r N => r = none ∧ NbI M p n m C n n 0 N) := by
    refine loopUp n ?_ ?_
    · intro N hN l2
      obtain ⟨a1, a2, a3, a4⟩ := g1 hN
      refine go ok_Plan_findNeighbours [80] 60 ?_
      refine qLe a3 rfl (by omega) (by omega) (fun _ => ?_) (fun q => absurd q (by omega))
      exact And.intro rfl hN
    · intro s hs ih N hN l2
      obtain ⟨a1, a2, a3, a4⟩ := g1 hN
      obtain ⟨-, -, b3, b4⟩ := gk hN
      -- pairs
      have l98 : ∀ k, k ≤ s → ∀ N, NbI M p n m C (s + 1) s k N → Wp E (d + 3) m_Plan_findNeighbours 98 [some (vP 30 p), some (vI (nI s)), some (vI (nI k))] [] N (fun r N => r = none ∧ NbI M p n m C n n 0 N) := by
        refine loopUp s ?_ ?_
        · intro N hN
          refine go ok_Plan_findNeighbours [80] 60 ?_
          refine cLe (by omega) (by omega) (fun _ => ?_) (fun q => absurd q (by omega))
          refine nm_r (nI_add _ _) (ih N ?_ _)
          obtain ⟨n1, n2, n3, n4, n5⟩ := hN
          refine ⟨n1, n2, fun i hi => ⟨?_, ?_⟩, n4, n5⟩
          · rw [(n3 i hi).1]
            exact S32_eq fun j hj => by rw [S32_at hj, ofP_nx]
          · rw [(n3 i hi).2]
            exact S32_eq fun j hj => by rw [S32_at hj, ofP_nx]
        · intro k hk ih2 N hN
          obtain ⟨a1, a2, a3, a4⟩ := g1 hN
          obtain ⟨c1, c2, -, -⟩ := gk hN
          refine go ok_Plan_findNeighbours [98] 60 ?_
          refine cLe (by omega) (by omega) (fun q => absurd q (by omega)) (fun _ => ?_)
          refine xc (d + 1) ok_Plan_findPair (c_findPair E d N p s k (by omega) (by omega) a1) (by omega) ?_
          rintro r M2 ⟨rfl, rfl⟩
          refine nm_r (nI_add _ _) (ih2 _ ?_)
          obtain ⟨n1, n2, n3, n4, n5⟩ := hN
          unfold fpM
          rw [c1, c2]
          have up : ∀ (f : Nat → Nat → Bool) (x : Int32) (i : Nat), x = S32 (ofP s k f i) → (if i = s ∨ i = k then (bif f s k then x ||| b1 (if i = s then k else s) else x) else x) = S32 (ofP s (k + 1) f i) := by
            intro f x i hx
            refine S32_eq fun j hj => ?_
            rw [ofP_st hk]
            by_cases e : i = s ∨ i = k
            · rw [if_pos e]
              cases hf : f s k with
              | false => rw [cond_false, hx, S32_at hj, Bool.false_and, Bool.or_false]
              | true =>
                rw [cond_true, b_or, hx, S32_at hj, Bool.true_and]
                congr 1
                by_cases e1 : i = s
                · rw [if_pos e1, b1_at (by omega) hj, decide_eq_true e1, decide_eq_false (show ¬ i = k by omega)]
                  simp
                · have e2 : i = k := by omega
                  rw [if_neg e1, b1_at (by omega) hj, decide_eq_false e1, decide_eq_true e2]
                  simp
            · rw [if_neg e, hx, S32_at hj, decide_eq_false (show ¬ i = s from fun z => e (Or.inl z)), decide_eq_false (show ¬ i = k from fun z => e (Or.inr z))]
              simp
          refine ⟨fun i r j hn => ?_, ?_, fun i hi => ⟨?_, ?_⟩, fun b hb => ?_, fun i hi => ?_⟩
          · rw [pA_at _ _ _ _ _ _ (by omega), if_neg (by omega), pA_at _ _ _ _ _ _ (by omega), if_neg (by omega)]
            exact n1 i r j hn
          · rw [pA_2, pA_2]; exact n2
          · rw [pA_at _ _ _ _ _ _ (by omega), if_neg (by omega), pA_at _ _ _ _ _ _ (by omega)]
            rw [← up (kCl M p) _ i (n3 i hi).1]
            by_cases e : i = s ∨ i = k
            · rw [if_pos ⟨rfl, rfl, e⟩, if_pos e]
            · rw [if_neg (fun z => e z.2.2), if_neg e]
          · rw [pA_at _ _ _ _ _ _ (by omega), ← up (kBr M p) _ i (n3 i hi).2]
            have eo : (pA N 46 p s k (kCl M p s k)).1 47 p i = N.1 47 p i := by rw [pA_at _ _ _ _ _ _ (by omega), if_neg (by omega)]
            rw [eo]
            by_cases e : i = s ∨ i = k
            · rw [if_pos ⟨rfl, rfl, e⟩, if_pos e]
            · rw [if_neg (fun z => e z.2.2), if_neg e]
          · rw [pA_at _ _ _ _ _ _ (by omega), if_neg (by omega), pA_at _ _ _ _ _ _ (by omega), if_neg (by omega)]
            exact n4 b hb
          · rw [pA_at _ _ _ _ _ _ (by omega), if_neg (by omega), pA_at _ _ _ _ _ _ (by omega), if_neg (by omega)]
            exact n5 i hi
      refine go ok_Plan_findNeighbours [98] 60 ?_
      refine qLe a3 rfl (by omega) (by omega) (fun q => absurd q (by omega)) (fun _ => ?_)
      refine xc (d + 2) ok_Plan_findBorders (c_findBorders E d N p s m (by omega) a2 a4 hm4) (by omega) ?_
      rintro r M2 ⟨rfl, f1, f2, f3, f4⟩
      refine l98 0 (Nat.zero_le _) M2 ?_
      obtain ⟨n1, n2, n3, n4, n5⟩ := hN
      refine ⟨fun i r j hn => ?_, f2.trans n2, fun i hi => ⟨?_, ?_⟩, fun b hb => ?_, fun i hi => ?_⟩
      · rw [f1 i r j (by omega)]; exact n1 i r j hn
      · rw [f1 46 p i (by omega)]; exact (n3 i hi).1
      · rw [f1 47 p i (by omega)]; exact (n3 i hi).2
      · rw [f3 b, b3, n4 b hb]
        refine S32_eq fun j hj => ?_
        cases hk : (decide (b < m) && kBo M p b s) with
        | false =>
          rw [cond_false, S32_at hj]
          by_cases e : j = s
          · rw [e, hk, Bool.and_false, Bool.and_false]
          · rw [show decide (j < s + 1) = decide (j < s) by rw [decide_eq_decide]; omega]
        | true =>
          rw [cond_true, b_or, S32_at hj, b1_at (by omega) hj]
          by_cases e : j = s
          · rw [e, hk, decide_eq_true rfl, decide_eq_true (Nat.lt_succ_self s)]
            simp
          · rw [decide_eq_false e, Bool.or_false, show decide (j < s + 1) = decide (j < s) by rw [decide_eq_decide]; omega]
      · rw [f4 i]
        by_cases e : i = s
        · rw [if_pos e]
          refine S32_eq fun j hj => ?_
          rw [S32_at hj, b4, n5 s (by omega), S32_at hj, e, decide_eq_true hs, decide_eq_false (Nat.lt_irrefl s), decide_eq_true (Nat.lt_succ_self s)]
          simp
        · rw [if_neg e, n5 i hi, show decide (i < s + 1) = decide (i < s) by rw [decide_eq_decide]; omega]
  -- all is cleared
  have l60 : ∀ k, k ≤ 4 → ∀ N, (∀ i r j, ¬ (r = p ∧ 46 ≤ i ∧ i ≤ 49) → N.1 i r j = M.1 i r j) → N.2 = M.2 → (∀ i, i < 8 → N.1 46 p i = nI 0 ∧ N.1 47 p i = nI 0 ∧ N.1 49 p i = if i < n then nI (2 ^ C - 1) else nI 0) → (∀ b, b < k → N.1 48 p b = nI 0) → Wp E (d + 3) m_Plan_findNeighbours 60 [some (vP 30 p), some (vI (nI k)), none] [] N (fun r N => r = none ∧ NbI M p n m C n n 0 N) := by
    refine loopUp 4 ?_ ?_
    · intro N n1 n2 n3 n4
      refine go ok_Plan_findNeighbours [80] 60 ?_
      refine cLe (by omega) (by omega) (fun _ => ?_) (fun q => absurd q (by omega))
      refine l80 0 (Nat.zero_le _) N ⟨n1, n2, fun i hi => ⟨?_, ?_⟩, fun b hb => ?_, fun i hi => ?_⟩ none
      · rw [(n3 i hi).1]
        exact S32_eq fun j hj => by rw [b_0, ofP_0]
      · rw [(n3 i hi).2.1]
        exact S32_eq fun j hj => by rw [b_0, ofP_0]
      · rw [n4 b hb]
        exact S32_eq fun j hj => by rw [b_0, decide_eq_false (Nat.not_lt_zero j)]; rfl
      · rw [(n3 i hi).2.2]
        refine S32_eq fun j hj => ?_
        rw [decide_eq_false (Nat.not_lt_zero i)]
        by_cases e : i < n
        · rw [if_pos e, decide_eq_true e, ones_bt (by omega) hj]
          simp
        · rw [if_neg e, decide_eq_false e, b_0]; rfl
    · intro k hk ih N n1 n2 n3 n4
      refine go ok_Plan_findNeighbours [60] 60 ?_
      refine cLe (by omega) (by omega) (fun q => absurd q (by omega)) (fun _ => ?_)
      refine ix k hk rfl ?_
      refine nm_r (nI_add _ _) (ih _ (fun i r j hn => ?_) n2 (fun i hi => ⟨?_, ?_, ?_⟩) (fun b hb => ?_))
      · rw [sI_at, if_neg (by omega)]; exact n1 i r j hn
      · rw [sI_at, if_neg (by omega)]; exact (n3 i hi).1
      · rw [sI_at, if_neg (by omega)]; exact (n3 i hi).2.1
      · rw [sI_at, if_neg (by omega)]; exact (n3 i hi).2.2
      · rw [sI_at]
        by_cases e : b = k
        · rw [if_pos ⟨rfl, rfl, e⟩]
        · rw [if_neg (fun z => e z.2.2)]; exact n4 b (by omega)
  have l2 : ∀ k, k ≤ 8 → ∀ N, (∀ i r j, ¬ (r = p ∧ 46 ≤ i ∧ i ≤ 49) → N.1 i r j = M.1 i r j) → N.2 = M.2 → (∀ i, i < k → N.1 46 p i = nI 0 ∧ N.1 47 p i = nI 0 ∧ N.1 49 p i = if i < n then nI (2 ^ C - 1) else nI 0) → Wp E (d + 3) m_Plan_findNeighbours 2 [some (vP 30 p), some (vI (nI k)), none] [] N (fun r N => r = none ∧ NbI M p n m C n n 0 N) := by
    refine loopUp 8 ?_ ?_
    · intro N n1 n2 n3
      refine go ok_Plan_findNeighbours [60] 60 ?_
      refine cLe (by omega) (by omega) (fun _ => ?_) (fun q => absurd q (by omega))
      exact l60 0 (Nat.zero_le _) N n1 n2 n3 (fun b hb => absurd hb (Nat.not_lt_zero b))
    · intro k hk ih N n1 n2 n3
      have e5 : (sI (sI N 46 p k (nI 0)) 47 p k (nI 0)).1 31 p 5 = nI n := by
        rw [sI_at, if_neg (by omega), sI_at, if_neg (by omega), n1 31 p 5 (by omega)]; exact hn
      have e10 : (sI (sI N 46 p k (nI 0)) 47 p k (nI 0)).1 30 p 10 = nI C := by
        rw [sI_at, if_neg (by omega), sI_at, if_neg (by omega), n1 30 p 10 (by omega)]; exact hC
      have nx : ∀ v, v = (if k < n then nI (2 ^ C - 1) else nI 0) → Wp E (d + 3) m_Plan_findNeighbours 51 [some (vP 30 p), some (vI (nI k)), none] [vI v, vI (nI k), vP 49 p] (sI (sI N 46 p k (nI 0)) 47 p k (nI 0)) (fun r N => r = none ∧ NbI M p n m C n n 0 N) := by
        intro v hv
        refine go ok_Plan_findNeighbours [2] 60 ?_
        refine ix k hk rfl ?_
        refine nm_r (nI_add _ _) (ih _ (fun i r j hn => ?_) n2 (fun i hi => ⟨?_, ?_, ?_⟩))
        · rw [sI_at, if_neg (by omega), sI_at, if_neg (by omega), sI_at, if_neg (by omega)]; exact n1 i r j hn
        · rw [sI_at, if_neg (by omega), sI_at, if_neg (by omega), sI_at]
          by_cases e : i = k
          · rw [if_pos ⟨rfl, rfl, e⟩]
          · rw [if_neg (fun z => e z.2.2)]; exact (n3 i (by omega)).1
        · rw [sI_at, if_neg (by omega), sI_at]
          by_cases e : i = k
          · rw [if_pos ⟨rfl, rfl, e⟩]
          · rw [if_neg (fun z => e z.2.2), sI_at, if_neg (by omega)]; exact (n3 i (by omega)).2.1
        · rw [sI_at]
          by_cases e : i = k
          · rw [if_pos ⟨rfl, rfl, e⟩, hv, e]
          · rw [if_neg (fun z => e z.2.2), sI_at, if_neg (by omega), sI_at, if_neg (by omega)]; exact (n3 i (by omega)).2.2
      refine go ok_Plan_findNeighbours [51] 60 ?_
      refine cLe (by omega) (by omega) (fun q => absurd q (by omega)) (fun _ => ?_)
      refine ix k hk rfl ?_
      refine ix k hk rfl ?_
      refine qLe e5 rfl (by omega) (by omega) (fun q => ?_) (fun q => ?_)
      · exact nx _ (by rw [if_neg (by omega)])
      · have hb := c_bit E d (sI (sI N 46 p k (nI 0)) 47 p k (nI 0)) C
        rw [← e10] at hb
        refine xq d ok_CS_bit hb (by omega) ?_
        refine nx _ ?_
        rw [if_pos q]
        exact ones_eq C (by omega)
  refine Mt.go ok_Plan_findNeighbours [2] 60 rfl ?_
  exact l2 0 (Nat.zero_le _) M (fun _ _ _ _ => rfl) rfl (fun i hi => absurd hi (Nat.not_lt_zero i))
end NB
