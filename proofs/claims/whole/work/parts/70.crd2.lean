/-! the class: its reader's words, wholes, signs -/
def BPs (T : TT) (B : Me) (r : Option AV) (M' : Me) : FL ⊕ Nat → Prop
  | .inl q => r = some (vI (nI 0)) ∧ CMe T B (.inl q) M'
  | .inr b => r = some (vI (nI 1)) ∧ CMe T B (.inr b) M'
theorem ck_1 {T : TT} {b : Nat} : ck (tK T b) = 1 ↔ tK T b = 2 := by
  have := tK_lt T b
  unfold ck
  split <;> omega
theorem ck_2 {T : TT} {b : Nat} : ck (tK T b) = 2 ↔ tK T b = 3 := by
  have := tK_lt T b
  unfold ck
  split <;> omega
theorem ck_3 {T : TT} {b : Nat} : ck (tK T b) = 3 ↔ tK T b = 4 := by
  have := tK_lt T b
  unfold ck
  split <;> omega
theorem ck_0 {T : TT} {b : Nat} : ck (tK T b) = 0 ↔ tK T b = 1 := by
  have := tK_lt T b
  unfold ck
  split <;> omega
theorem ck_le {T : TT} {b : Nat} : ck (tK T b) < 5 := by
  have := tK_lt T b
  unfold ck
  split <;> omega
section CR2
variable (E : EV) (d : Nat) {T : TT} {B : Me}
theorem c_faulty {f : Nat → Int32} {b : Nat} (k : Nat) (h : CT T f (.inr b)) : Mt E d m_Reader_faulty [vP 3 0, vI (nI k)] (mC B f) (fun r M' => r = some (vI (nI 0)) ∧ CMe T B (.inl (k, b)) M') := by
  refine Mt.go ok_Reader_faulty [] 60 rfl ?_
  refine And.intro (Or.inl rfl) (And.intro rfl ⟨fU (fU f 7 (nI k)) 8 (f 4), ?_, rfl, h.2.2.2.2.1⟩)
  rw [← mC_sI (by omega) (by omega), ← mC_sI (by omega) (by omega)]
  rfl
theorem c_isSign {f : Nat → Int32} {b : Nat} (hT : CTp T B) (c : Nat) (hc : c < 256) (h : CT T f (.inr b)) : Mt E d m_Reader_isSign [vP 3 0, vI (nI c)] (mC B f) (RP (vI (bI (isG T c (.inr b)))) (mC B f)) := by
  obtain ⟨h1, h2, h3, h4, h5, h6, h7, h8, h9⟩ := h
  have hck := ck_le (T := T) (b := b)
  have hB := hT.2.2 b
  refine Mt.go ok_Reader_isSign [] 60 rfl ?_
  refine qNe h4 rfl (by omega) (by omega) (fun q => ?_) (fun q => ?_)
  · refine And.intro (Or.inl rfl) (And.intro ?_ rfl)
    unfold isG; dsimp only
    rw [decide_eq_false (fun e => q (ck_3.mpr e))]; rfl
  · have q := ck_3.mp q
    refine qNe (h8 q) rfl (by omega) (by omega) (fun w => ?_) (fun w => ?_)
    · refine And.intro (Or.inl rfl) (And.intro ?_ rfl)
      unfold isG; dsimp only
      rw [decide_eq_false w, Bool.and_false]; rfl
    · refine And.intro (Or.inr rfl) (And.intro ?_ rfl)
      unfold isG; dsimp only
      rw [decide_eq_true w, decide_eq_true q]; rfl
def WhC (T : TT) (B : Me) (f : Nat → Int32) (r : Option AV) (M' : Me) : FL ⊕ (Nat × Nat) → Prop
  | .inl q => r = some (vI (nI 0)) ∧ CMe T B (.inl q) M'
  | .inr _ => r = some (vI (nI 1)) ∧ M' = mC B f
theorem c_isWhole {f : Nat → Int32} {b : Nat} (lo hi : Nat) (hlo : lo < 2 ^ 31) (hhi : hi < 2 ^ 31) (h : CT T f (.inr b)) : Mt E (d + 1) m_Reader_isWhole [vP 3 0, vI (nI lo), vI (nI hi)] (mC B f) (fun r M' => WhC T B f r M' (whl T lo hi (.inr b))) := by
  obtain ⟨h1, h2, h3, h4, h5, h6, h7, h8, h9⟩ := id h
  have hck := ck_le (T := T) (b := b)
  refine Mt.go ok_Reader_isWhole [30] 60 rfl ?_
  refine qEq h4 rfl (by omega) (by omega) (fun q => ?_) (fun q => ?_)
  · have q := ck_2.mp q
    have hn := tN3_lt q
    have h7 := h7 q
    have bad : (decide (lo ≤ tN3 T b) && decide (tN3 T b ≤ hi)) = false → Wp E (d + 1) m_Reader_isWhole 30 [some (vP 3 0), some (vI (nI lo)), some (vI (nI hi))] [] (mC B f) (fun r M' => WhC T B f r M' (whl T lo hi (.inr b))) := by
      intro e
      refine go ok_Reader_isWhole [] 60 ?_
      refine xc d ok_Reader_faulty (c_faulty E d 2 h) (by omega) ?_
      rintro r M' ⟨rfl, hM⟩
      refine And.intro (fun _ => ?_) (fun e => absurd rfl e)
      refine And.intro (Or.inl rfl) ?_
      unfold whl; dsimp only
      rw [decide_eq_true q, e]
      exact ⟨rfl, hM⟩
    refine qLt h7 rfl (by omega) (by omega) (fun w => ?_) (fun w => ?_)
    · exact bad (by rw [decide_eq_false (show ¬ lo ≤ tN3 T b by omega)]; rfl)
    · refine qLe h7 rfl (by omega) (by omega) (fun v => ?_) (fun v => ?_)
      · refine And.intro (Or.inr rfl) ?_
        unfold whl; dsimp only
        rw [decide_eq_true q, decide_eq_true w, decide_eq_true v]
        exact ⟨rfl, rfl⟩
      · exact bad (by rw [decide_eq_false (show ¬ tN3 T b ≤ hi by omega), Bool.and_false])
  · refine xc d ok_Reader_faulty (c_faulty E d 1 h) (by omega) ?_
    rintro r M' ⟨rfl, hM⟩
    refine And.intro (Or.inl rfl) ?_
    unfold whl; dsimp only
    rw [decide_eq_false (fun e => q (ck_2.mpr e))]
    exact ⟨rfl, hM⟩
theorem c_taken {f : Nat → Int32} {b : Nat} (hT : CTp T B) (h : CT T f (.inr b)) (hk : tK T b = 3) : Mt E (d + 2) m_Reader_taken [vP 3 0] (mC B f) (fun r M' => r = some (vI (nI (tN3 T b))) ∧ CMe T B (.inr (tX T b)) M') := by
  refine Mt.go ok_Reader_taken [] 60 rfl ?_
  refine xc (d + 1) ok_Reader_nextToken (c_nextToken E d hT h) (by omega) ?_
  rintro r M' ⟨rfl, hM⟩
  refine And.intro ?_ hM
  show some (vI (f 6)) = _
  rw [h.2.2.2.2.2.2.1 hk]
theorem c_isWord {f : Nat → Int32} {b : Nat} (hS : StrOK E) (hT : CTp T B) (i : Nat) (hi : i < 8) (h : CT T f (.inr b)) : Mt E (d + 5) m_Reader_isWord [vP 3 0, vP (300 + i) 0] (mC B f) (RP (vI (bI (isW T i (.inr b)))) (mC B f)) := by
  obtain ⟨h1, h2, h3, h4, h5, h6, h7, h8, h9⟩ := id h
  have hck := ck_le (T := T) (b := b)
  obtain ⟨⟨c1, s1⟩, ⟨c2, s2⟩⟩ := hS d (mC B f) i hi
  obtain ⟨o1, o2⟩ := sB_ok i hi
  have t1 := hT.1
  -- the letters one by one
  have loop : tK T b = 2 → tL T b = sLn i → ∀ k, k ≤ sLn i → (∀ j, j < k → T.1 (b + j) = sB i j) → Wp E (d + 5) m_Reader_isWord 23 [some (vP 3 0), some (vP (300 + i) 0), some (vI (nI k))] [] (mC B f) (RP (vI (bI (isW T i (.inr b)))) (mC B f)) := by
    intro hk hl
    obtain ⟨l1, l2, l3, l4⟩ := tW_lt2 hk
    have hbe := tE_le (T := T) h2
    refine loopUp (sLn i) ?_ ?_
    · intro hall
      have hw : isW T i (.inr b) = true := by
        unfold isW; dsimp only
        rw [decide_eq_true hk, Bool.true_and]
        refine decide_eq_true ?_
        unfold tW sW
        rw [hl]
        have : ∀ n, n ≤ sLn i → wdV (fun j => T.1 (b + j)) n = wdV (sB i) n := by
          intro n
          induction n with
          | zero => intro _; rfl
          | succ n ih => intro hn; rw [wdV, wdV, ih (by omega), hall n (by omega)]
        exact this _ (Nat.le_refl _)
      obtain rfl | rfl | rfl | rfl | rfl | rfl | rfl | rfl : i = 0 ∨ i = 1 ∨ i = 2 ∨ i = 3 ∨ i = 4 ∨ i = 5 ∨ i = 6 ∨ i = 7 := by omega
      all_goals
        refine go ok_Reader_isWord [] 60 ?_
        refine xqc (d + 4) c1 s1 (by omega) ?_
        refine cLe (by omega) (by omega) (fun _ => ?_) (fun q => absurd q (by omega))
        exact And.intro (Or.inr rfl) (And.intro (by rw [hw]; rfl) rfl)
    · intro k hkl ih hall
      have hx := c_byteAt E d (f := f) hT (b + k) (by omega)
      rw [← nI_s8, ← h5] at hx
      have s2 := s2 k hkl
      have ob := o2 k hkl
      have hB := hT.2.2 (b + k)
      have good : T.1 (b + k) = sB i k → Wp E (d + 5) m_Reader_isWord 23 [some (vP 3 0), some (vP (300 + i) 0), some (vI (nI (k + 1)))] [] (mC B f) (RP (vI (bI (isW T i (.inr b)))) (mC B f)) := fun e => ih (fun j hj => by
        by_cases c : j = k
        · rw [c]; exact e
        · exact hall j (by omega))
      have bad : T.1 (b + k) ≠ sB i k → isW T i (.inr b) = false := fun e => by
        unfold isW; dsimp only
        have : ¬ tW T b = sW i := fun z => by
          unfold tW sW at z
          obtain ⟨z1, z2⟩ := wd_inj _ _ (fun j hj => l3 j hj) (fun j hj => o2 j hj) z
          exact e (z2 k (by omega))
        rw [decide_eq_false this, Bool.and_false]
      obtain rfl | rfl | rfl | rfl | rfl | rfl | rfl | rfl : i = 0 ∨ i = 1 ∨ i = 2 ∨ i = 3 ∨ i = 4 ∨ i = 5 ∨ i = 6 ∨ i = 7 := by omega
      all_goals
        refine go ok_Reader_isWord [23] 60 ?_
        refine xqc (d + 4) c1 s1 (by omega) ?_
        refine cLe (by omega) (by omega) (fun q => absurd q (by omega)) (fun _ => ?_)
        refine xq d ok_Tape_byteAt hx (by omega) ?_
        refine xqc (d + 4) c2 s2 (by omega) ?_
        refine cEq (by omega) (by omega) (fun q => ?_) (fun q => ?_)
        · exact nm_r (nI_add _ _) (good q)
        · exact And.intro (Or.inl rfl) (And.intro (by rw [bad q]; rfl) rfl)
  have no : ¬ tK T b = 2 → isW T i (.inr b) = false := fun e => by
    unfold isW; dsimp only
    rw [decide_eq_false e]; rfl
  have no2 : tK T b = 2 → tL T b ≠ sLn i → isW T i (.inr b) = false := fun hk e => by
    unfold isW; dsimp only
    obtain ⟨l1, l2, l3, l4⟩ := tW_lt2 hk
    have : ¬ tW T b = sW i := fun z => by
      unfold tW sW at z
      exact e (wd_inj _ _ (fun j hj => l3 j hj) (fun j hj => o2 j hj) z).1
    rw [decide_eq_false this, Bool.and_false]
  have hl8 : tK T b = 2 → tL T b ≤ 8 := fun hk => (tW_lt2 hk).2.1
  obtain rfl | rfl | rfl | rfl | rfl | rfl | rfl | rfl : i = 0 ∨ i = 1 ∨ i = 2 ∨ i = 3 ∨ i = 4 ∨ i = 5 ∨ i = 6 ∨ i = 7 := by omega
  all_goals
    refine Mt.go ok_Reader_isWord [23] 60 rfl ?_
    refine qNe h4 rfl (by omega) (by omega) (fun q => ?_) (fun q => ?_)
    · exact And.intro (Or.inl rfl) (And.intro (by rw [no (fun e => q (ck_1.mpr e))]; rfl) rfl)
    · have q := ck_1.mp q
      have := hl8 q
      refine xqc (d + 4) c1 s1 (by omega) ?_
      refine qEq h6 rfl (by omega) (by omega) (fun w => ?_) (fun w => ?_)
      · exact loop q w 0 (Nat.zero_le _) (fun j hj => absurd hj (Nat.not_lt_zero _))
      · exact And.intro (Or.inl rfl) (And.intro (by rw [no2 q w]; rfl) rfl)
theorem c_passWord {f : Nat → Int32} {b : Nat} (hS : StrOK E) (hT : CTp T B) (i : Nat) (hi : i < 8) (h : CT T f (.inr b)) : Mt E (d + 6) m_Reader_passWord [vP 3 0, vP (300 + i) 0] (mC B f) (fun r M' => BPs T B r M' (ned T i (.inr b))) := by
  refine Mt.go ok_Reader_passWord [] 60 rfl ?_
  refine xq (d + 5) ok_Reader_isWord (c_isWord E d hS hT i hi h) (by omega) ?_
  refine brN (fun c => ?_) (fun c => ?_)
  · refine xc (d + 1) ok_Reader_nextToken (c_nextToken E d hT h) (by omega) ?_
    rintro r M' ⟨rfl, hM⟩
    refine And.intro (Or.inr rfl) ?_
    unfold ned
    rw [c]
    exact ⟨rfl, hM⟩
  · refine xc d ok_Reader_faulty (c_faulty E d 1 h) (by omega) ?_
    rintro r M' ⟨rfl, hM⟩
    refine And.intro (Or.inl rfl) ?_
    unfold ned
    rw [c]
    exact ⟨rfl, hM⟩
theorem c_passSemicolon {f : Nat → Int32} {b : Nat} (hT : CTp T B) (h : CT T f (.inr b)) : Mt E (d + 2) m_Reader_passSemicolon [vP 3 0] (mC B f) (fun r M' => BPs T B r M' (bif isG T 59 (.inr b) then .inr (tX T b) else .inl (1, b))) := by
  refine Mt.go ok_Reader_passSemicolon [] 60 rfl ?_
  refine xq d ok_Reader_isSign (c_isSign E d hT 59 (by omega) h) (by omega) ?_
  refine brN (fun c => ?_) (fun c => ?_)
  · refine xc (d + 1) ok_Reader_nextToken (c_nextToken E d hT h) (by omega) ?_
    rintro r M' ⟨rfl, hM⟩
    refine And.intro (Or.inr rfl) ?_
    rw [c]
    exact ⟨rfl, hM⟩
  · refine xc d ok_Reader_faulty (c_faulty E d 1 h) (by omega) ?_
    rintro r M' ⟨rfl, hM⟩
    refine And.intro (Or.inl rfl) ?_
    rw [c]
    exact ⟨rfl, hM⟩
theorem c_isOwnWord {f : Nat → Int32} {b : Nat} (hS : StrOK E) (hT : CTp T B) (h : CT T f (.inr b)) : Mt E (d + 6) m_Reader_isOwnWord [vP 3 0] (mC B f) (RP (vI (bI (own T (.inr b)))) (mC B f)) := by
  have hw : ∀ i, i < 8 → Mt E (d + 5) m_Reader_isWord [vP 3 0, vP (300 + i) 0] (mC B f) (RP (vI (bI (isW T i (.inr b)))) (mC B f)) := fun i hi => c_isWord E d hS hT i hi h
  have fin : ∀ x, x = own T (.inr b) → Wp E (d + 6) m_Reader_isOwnWord 77 [some (vP 3 0)] [vI (bI x)] (mC B f) (RP (vI (bI (own T (.inr b)))) (mC B f)) := by
    rintro x rfl
    refine go ok_Reader_isOwnWord [] 60 ?_
    exact And.intro (bI_or _) (And.intro rfl rfl)
  refine Mt.go ok_Reader_isOwnWord [77] 60 rfl ?_
  refine xq (d + 5) ok_Reader_isWord (hw 0 (by omega)) (by omega) ?_
  refine brN (fun c0 => ?_) (fun c0 => ?_)
  · exact fin true (by unfold own; rw [c0]; rfl)
  · refine xq (d + 5) ok_Reader_isWord (hw 1 (by omega)) (by omega) ?_
    refine brN (fun c1 => ?_) (fun c1 => ?_)
    · exact fin true (by unfold own; rw [c0, c1]; rfl)
    · refine xq (d + 5) ok_Reader_isWord (hw 2 (by omega)) (by omega) ?_
      refine brN (fun c2 => ?_) (fun c2 => ?_)
      · exact fin true (by unfold own; rw [c0, c1, c2]; rfl)
      · refine xq (d + 5) ok_Reader_isWord (hw 3 (by omega)) (by omega) ?_
        refine brN (fun c3 => ?_) (fun c3 => ?_)
        · exact fin true (by unfold own; rw [c0, c1, c2, c3]; rfl)
        · refine xq (d + 5) ok_Reader_isWord (hw 4 (by omega)) (by omega) ?_
          refine brN (fun c4 => ?_) (fun c4 => ?_)
          · exact fin true (by unfold own; rw [c0, c1, c2, c3, c4]; rfl)
          · refine xq (d + 5) ok_Reader_isWord (hw 5 (by omega)) (by omega) ?_
            refine brN (fun c5 => ?_) (fun c5 => ?_)
            · exact fin true (by unfold own; rw [c0, c1, c2, c3, c4, c5]; rfl)
            · refine xq (d + 5) ok_Reader_isWord (hw 6 (by omega)) (by omega) ?_
              refine brN (fun c6 => ?_) (fun c6 => ?_)
              · exact fin true (by unfold own; rw [c0, c1, c2, c3, c4, c5, c6]; rfl)
              · refine xq (d + 5) ok_Reader_isWord (hw 7 (by omega)) (by omega) ?_
                refine brF (fun c7 => ?_) (fun c7 => ?_)
                · exact fin false (by unfold own; rw [c0, c1, c2, c3, c4, c5, c6, c7]; rfl)
                · exact fin true (by unfold own; rw [c0, c1, c2, c3, c4, c5, c6, c7]; rfl)
/-- the name of a station that was read -/
def NmC (T : TT) (B : Me) (p s nb : Nat) : Prop := B.1 45 p s = nI (tL T nb) ∧ tK T nb = 2 ∧ ∀ i, i < tL T nb → B.1 44 (s + p * 8) i = nI (T.1 (nb + i))
theorem c_isName {f : Nat → Int32} {b : Nat} (hT : CTp T B) (p t nb : Nat) (ht : t < 8) (hn : NmC T B p t nb) (h : CT T f (.inr b)) (hk : tK T b = 2) : Mt E (d + 1) m_Reader_isName [vP 3 0, vP 30 p, vI (nI t)] (mC B f) (RP (vI (bI (decide (tW T nb = tW T b)))) (mC B f)) := by
  obtain ⟨h1, h2, h3, h4, h5, h6, h7, h8, h9⟩ := id h
  obtain ⟨n1, n2, n3⟩ := hn
  obtain ⟨l1, l2, l3, l4⟩ := tW_lt2 hk
  obtain ⟨m1, m2, m3, m4⟩ := tW_lt2 n2
  have hbe := tE_le (T := T) h2
  have t1 := hT.1
  refine Mt.go ok_Reader_isName [27] 60 rfl ?_
  refine cLt (by omega) (by omega) (fun q => absurd q (by omega)) (fun _ => ?_)
  refine cLe (by omega) (by omega) (fun q => absurd q (by omega)) (fun _ => ?_)
  refine ix t ht rfl ?_
  refine qEq h6 n1 (by omega) (by omega) (fun e => ?_) (fun e => ?_)
  · have loop : ∀ k, k ≤ tL T b → (∀ j, j < k → T.1 (b + j) = T.1 (nb + j)) → Wp E (d + 1) m_Reader_isName 27 [some (vP 3 0), some (vP 30 p), some (vI (nI t)), some (vI (nI k))] [] (mC B f) (RP (vI (bI (decide (tW T nb = tW T b)))) (mC B f)) := by
      refine loopUp (tL T b) ?_ ?_
      · intro hall
        refine go ok_Reader_isName [] 60 ?_
        refine qLe h6 rfl (by omega) (by omega) (fun _ => ?_) (fun q => absurd q (by omega))
        refine And.intro (Or.inr rfl) (And.intro ?_ rfl)
        have : tW T nb = tW T b := by
          unfold tW
          rw [← e]
          have : ∀ n, n ≤ tL T b → wdV (fun j => T.1 (nb + j)) n = wdV (fun j => T.1 (b + j)) n := by
            intro n
            induction n with
            | zero => intro _; rfl
            | succ n ih => intro hn; rw [wdV, wdV, ih (by omega), hall n (by omega)]
          exact this _ (Nat.le_refl _)
        rw [decide_eq_true this]; rfl
      · intro k hkl ih hall
        have hx := c_byteAt E d (f := f) hT (b + k) (by omega)
        rw [← nI_s8, ← h5] at hx
        have hB := hT.2.2 (b + k)
        have hB2 := hT.2.2 (nb + k)
        refine go ok_Reader_isName [27] 60 ?_
        refine qLe h6 rfl (by omega) (by omega) (fun q => absurd q (by omega)) (fun _ => ?_)
        refine cLe (by omega) (by omega) (fun q => absurd q (by omega)) (fun _ => ?_)
        refine xq d ok_Tape_byteAt hx (by omega) ?_
        refine ix t (show _ < 8 by omega) rfl ?_
        refine ix k (show _ < 8 by omega) rfl ?_
        refine qEq rfl (n3 k (by omega)) (by omega) (by omega) (fun q => ?_) (fun q => ?_)
        · refine nm_r (nI_add _ _) (ih (fun j hj => ?_))
          by_cases c : j = k
          · rw [c]; exact q
          · exact hall j (by omega)
        · refine And.intro (Or.inl rfl) (And.intro ?_ rfl)
          have : ¬ tW T nb = tW T b := fun z => by
            unfold tW at z
            exact q ((wd_inj _ _ (fun j hj => m3 j hj) (fun j hj => l3 j hj) z).2 k (by omega)).symm
          rw [decide_eq_false this]; rfl
    exact loop 0 (Nat.zero_le _) (fun j hj => absurd hj (Nat.not_lt_zero _))
  · refine And.intro (Or.inl rfl) (And.intro ?_ rfl)
    have : ¬ tW T nb = tW T b := fun z => by
      unfold tW at z
      exact e (wd_inj _ _ (fun j hj => m3 j hj) (fun j hj => l3 j hj) z).1.symm
    rw [decide_eq_false this]; rfl
end CR2
