/-! the reference: its words and wholes -/
def sLn (i : Nat) : Nat := strLen.getD i 0
def sB (i k : Nat) : Nat := tN ((strByt.getD i []).getD k 0)
def sW (i : Nat) : Nat := wdV (sB i) (sLn i)
/-- what the two methods of a String answer -/
def StrOK (E : EV) : Prop := ∀ (d : Nat) (M : Me) (i : Nat), i < 8 → (codeW m_String_length ∈ TW ∧ Mt E (d + 4) m_String_length [vP (300 + i) 0] M (RP (vI (nI (sLn i))) M)) ∧ (codeW m_String_charAt ∈ TW ∧ ∀ k, k < sLn i → Mt E (d + 4) m_String_charAt [vP (300 + i) 0, vI (nI k)] M (RP (vI (nI (sB i k))) M))
theorem sB_ok : ∀ i, i < 8 → sLn i ≤ 8 ∧ ∀ k, k < sLn i → 97 ≤ sB i k ∧ sB i k ≤ 122 := by decide +kernel
theorem sW_lt {i : Nat} (h : i < 8) : sW i < 32 ^ 8 := Nat.lt_of_lt_of_le (wdV_lt _ (fun k hk => ((sB_ok i h).2 k hk).2)) (Nat.pow_le_pow_right (by omega) (sB_ok i h).1)
theorem xqc {E : EV} {d : Nat} {M : Me} {m' : MC} {as : List AV} {v : AV} {K : Option AV → Me → Prop} (d' : Nat) (hok : codeW m' ∈ TW) (hM : Mt E d' m' as M (RP v M)) (hd : d' < d) (hk : K (some v) M) : codeW m' ∈ TW ∧ CallK E d m' as M K := ⟨hok, d', _, hd, hM, fun r M' h => by rw [h.1, h.2]; exact hk⟩
theorem cmpE {a b : Nat} (ha : a < 2 ^ 63) (hb : b < 2 ^ 63) : lg_cmp (lN a) (lN b) = nI 0 ↔ a = b := by
  unfold lg_cmp
  rcases Nat.lt_trichotomy a b with h | h | h
  · have h1 : ¬ lN a > lN b := fun q => absurd ((pk_lLT hb ha).mp q) (by omega)
    have h2 : ¬ lN a = lN b := fun q => absurd ((pk_lEQ ha hb).mp q) (by omega)
    rw [if_neg h1, if_neg h2]
    exact ⟨fun q => absurd q (by decide), fun q => absurd q (by omega)⟩
  · subst h
    have h1 : ¬ lN a > lN a := fun q => absurd ((pk_lLT hb ha).mp q) (by omega)
    rw [if_neg h1, if_pos rfl]
    exact ⟨fun _ => rfl, fun _ => rfl⟩
  · have h1 : lN a > lN b := (pk_lLT hb ha).mpr h
    rw [if_pos h1]
    exact ⟨fun q => absurd q (by decide), fun q => absurd q (by omega)⟩
def isW (T : TT) (i : Nat) : FL ⊕ Nat → Bool
  | .inl _ => false
  | .inr b => decide (tK T b = 2) && decide (tW T b = sW i)
def isG (T : TT) (c : Nat) : FL ⊕ Nat → Bool
  | .inl _ => false
  | .inr b => decide (tK T b = 4) && decide (T.1 b = c)
def ned (T : TT) (i : Nat) (R : FL ⊕ Nat) : FL ⊕ Nat := gon T (bif isW T i R then R else flw 1 R)
def own (T : TT) (R : FL ⊕ Nat) : Bool := (isW T 0 R || (isW T 1 R || (isW T 2 R || isW T 3 R))) || (isW T 4 R || (isW T 5 R || (isW T 6 R || isW T 7 R)))
def whl (T : TT) (lo hi : Nat) : FL ⊕ Nat → FL ⊕ (Nat × Nat)
  | .inl q => .inl q
  | .inr b => bif decide (tK T b = 3) then (bif decide (lo ≤ tN3 T b) && decide (tN3 T b ≤ hi) then .inr (tN3 T b, tX T b) else .inl (2, b)) else .inl (1, b)
def WhP (T : TT) (B : Me) (v : Int32) (M' : Me) : FL ⊕ (Nat × Nat) → Prop
  | .inl q => TMe T B (.inl q) M'
  | .inr z => v = nI z.1 ∧ TMe T B (.inr z.2) M'
theorem tK_lt (T : TT) (b : Nat) : tK T b < 5 := by
  unfold tK
  cases decide (b = T.2) with
  | true => exact (by decide : (1 : Nat) < 5)
  | false =>
    rw [cond_false]
    cases tLe T b with
    | true => rw [cond_true]; split <;> omega
    | false =>
      rw [cond_false]
      cases tDi T b with
      | true => rw [cond_true]; split <;> omega
      | false =>
        rw [cond_false]
        cases (decide (T.1 b = 59) || decide (T.1 b = 44)) <;> (simp only [cond_true, cond_false]; omega)
section P3
variable (E : EV) (d : Nat) {T : TT} {B : Me}
theorem r_wordOf (hS : StrOK E) (M : Me) (i : Nat) (hi : i < 8) : Mt E (d + 5) m_Mo_wordOf [vP (300 + i) 0] M (RP (vJ (lN (sW i))) M) := by
  obtain ⟨⟨c1, h1⟩, ⟨c2, h2⟩⟩ := hS d M i hi
  obtain ⟨o1, o2⟩ := sB_ok i hi
  refine Mt.go ok_Mo_wordOf [4] 20 rfl ?_
  have key : ∀ k, k ≤ sLn i → ∀ v, v = wdV (sB i) k → Wp E (d + 5) m_Mo_wordOf 4 [some (vP (300 + i) 0), some (vJ (lN v)), none, some (vI (nI k))] [] M (RP (vJ (lN (sW i))) M) := by
    refine loopUp (sLn i) ?_ ?_
    · rintro v rfl
      obtain rfl | rfl | rfl | rfl | rfl | rfl | rfl | rfl : i = 0 ∨ i = 1 ∨ i = 2 ∨ i = 3 ∨ i = 4 ∨ i = 5 ∨ i = 6 ∨ i = 7 := by omega
      all_goals
        refine go ok_Mo_wordOf [4] 60 ?_
        refine xqc (d + 4) c1 h1 (by omega) ?_
        refine cLe (by omega) (by omega) (fun _ => ?_) (fun q => absurd q (by omega))
        exact And.intro rfl rfl
    · rintro k hk ih v rfl
      have ih := ih _ rfl
      have o3 := o2 k hk
      have h2 := h2 k hk
      rw [wdV, ← wd_step o3.1 o3.2] at ih
      obtain rfl | rfl | rfl | rfl | rfl | rfl | rfl | rfl : i = 0 ∨ i = 1 ∨ i = 2 ∨ i = 3 ∨ i = 4 ∨ i = 5 ∨ i = 6 ∨ i = 7 := by omega
      all_goals
        refine go ok_Mo_wordOf [4] 60 ?_
        refine xqc (d + 4) c1 h1 (by omega) ?_
        refine cLe (by omega) (by omega) (fun q => absurd q (by omega)) (fun _ => ?_)
        refine xqc (d + 4) c2 h2 (by omega) ?_
        refine nm_r (nI_add _ _) ?_
        exact ih
  exact key 0 (Nat.zero_le _) 0 rfl
theorem r_isWord {f : Nat → Int32} {g : Int64} {R : FL ⊕ Nat} (hS : StrOK E) (i : Nat) (hi : i < 8) (h : TS T f g R) : Mt E (d + 6) m_Mo_isWord [vP 60 0, vP (300 + i) 0] (mT B f g) (RP (vI (bI (isW T i R))) (mT B f g)) := by
  refine Mt.go ok_Mo_isWord [] 60 rfl ?_
  match R, h with
  | .inl q, h =>
    obtain ⟨h1, h2, h3, h4, h5⟩ := h
    refine qNe h2 rfl (by omega) (by omega) (fun _ => ?_) (fun e => absurd e (by omega))
    exact And.intro (Or.inl rfl) (And.intro rfl rfl)
  | .inr b, h =>
    obtain ⟨h1, h2, h3, h4, h5, h6, h7, h8, h9⟩ := h
    have hk := tK_lt T b
    refine qNe h2 rfl (by omega) (by omega) (fun e => absurd e (by omega)) (fun _ => ?_)
    refine qNe h5 rfl (by omega) (by omega) (fun e => ?_) (fun e => ?_)
    · refine And.intro (Or.inl rfl) (And.intro ?_ rfl)
      unfold isW; dsimp only; rw [decide_eq_false e]; rfl
    · refine xq (d + 5) ok_Mo_wordOf (r_wordOf E d hS _ i hi) (by omega) ?_
      have hg : (mT B f g).2.1 60 0 13 = lN (tW T b) := h9 e
      rw [hg]
      have hw := tW_lt e
      have hs := sW_lt hi
      refine And.intro (fun c => ?_) (fun c => ?_)
      · refine And.intro (Or.inl rfl) (And.intro ?_ rfl)
        have : ¬ tW T b = sW i := fun z => c ((cmpE (by omega) (by omega)).mpr z)
        unfold isW; dsimp only; rw [decide_eq_false this, Bool.and_false]; rfl
      · refine And.intro (Or.inr rfl) (And.intro ?_ rfl)
        have : tW T b = sW i := (cmpE (by omega) (by omega)).mp c
        unfold isW; dsimp only; rw [decide_eq_true this, decide_eq_true e]; rfl
theorem r_isSign {f : Nat → Int32} {g : Int64} {R : FL ⊕ Nat} (hT : RTt T B) (c : Nat) (hc : c < 256) (h : TS T f g R) : Mt E d m_Mo_isSign [vP 60 0, vI (nI c)] (mT B f g) (RP (vI (bI (isG T c R))) (mT B f g)) := by
  refine Mt.go ok_Mo_isSign [] 60 rfl ?_
  match R, h with
  | .inl q, h =>
    obtain ⟨h1, h2, h3, h4, h5⟩ := h
    refine qNe h2 rfl (by omega) (by omega) (fun _ => ?_) (fun e => absurd e (by omega))
    exact And.intro (Or.inl rfl) (And.intro rfl rfl)
  | .inr b, h =>
    obtain ⟨h1, h2, h3, h4, h5, h6, h7, h8, h9⟩ := h
    have hk := tK_lt T b
    have hB := hT.2.2 b
    refine qNe h2 rfl (by omega) (by omega) (fun e => absurd e (by omega)) (fun _ => ?_)
    refine qNe h5 rfl (by omega) (by omega) (fun e => ?_) (fun e => ?_)
    · refine And.intro (Or.inl rfl) (And.intro ?_ rfl)
      unfold isG; dsimp only; rw [decide_eq_false e]; rfl
    · refine qNe (h7 e) rfl (by omega) (by omega) (fun z => ?_) (fun z => ?_)
      · refine And.intro (Or.inl rfl) (And.intro ?_ rfl)
        unfold isG; dsimp only; rw [decide_eq_false z, Bool.and_false]; rfl
      · refine And.intro (Or.inr rfl) (And.intro ?_ rfl)
        unfold isG; dsimp only; rw [decide_eq_true z, decide_eq_true e]; rfl
theorem r_needs {f : Nat → Int32} {g : Int64} {R : FL ⊕ Nat} (hS : StrOK E) (hT : RTt T B) (i : Nat) (hi : i < 8) (h : TS T f g R) : Mt E (d + 7) m_Mo_needs [vP 60 0, vP (300 + i) 0] (mT B f g) (fun r M' => r = none ∧ TMe T B (ned T i R) M') := by
  refine Mt.go ok_Mo_needs [13] 60 rfl ?_
  have rest : ∀ R', ned T i R = gon T R' → ∀ M', TMe T B R' M' → Wp E (d + 7) m_Mo_needs 13 [some (vP 60 0), some (vP (300 + i) 0)] [] M' (fun r M' => r = none ∧ TMe T B (ned T i R) M') := by
    rintro R' e M' ⟨f', g', rfl, h'⟩
    refine go ok_Mo_needs [] 60 ?_
    refine xc (d + 4 + 2) ok_Mo_goOn (r_goOn E (d + 4) hT h') (by omega) ?_
    rintro r M2 ⟨rfl, h2⟩
    refine And.intro rfl ?_
    rw [e]; exact h2
  refine xq (d + 6) ok_Mo_isWord (r_isWord E d hS i hi h) (by omega) ?_
  refine brN (fun c => ?_) (fun c => ?_)
  · refine rest R ?_ _ ⟨f, g, rfl, h⟩
    unfold ned; rw [c]; rfl
  · refine xc d ok_Mo_flaw (r_flaw E d 1 (by omega) (by omega) h) (by omega) ?_
    rintro r M2 ⟨rfl, h2⟩
    refine rest (flw 1 R) ?_ _ h2
    unfold ned; rw [c]; rfl
theorem r_isOwn {f : Nat → Int32} {g : Int64} {R : FL ⊕ Nat} (hS : StrOK E) (h : TS T f g R) : Mt E (d + 7) m_Mo_isOwn [vP 60 0] (mT B f g) (RP (vI (bI (own T R))) (mT B f g)) := by
  have hw : ∀ i, i < 8 → Mt E (d + 6) m_Mo_isWord [vP 60 0, vP (300 + i) 0] (mT B f g) (RP (vI (bI (isW T i R))) (mT B f g)) := fun i hi => r_isWord E d hS i hi h
  refine Mt.go ok_Mo_isOwn [42] 60 rfl ?_
  have fin : ∀ x, x = own T R → ∀ l1, Wp E (d + 7) m_Mo_isOwn 87 [some (vP 60 0), some (vI l1)] [vI (bI x)] (mT B f g) (RP (vI (bI (own T R))) (mT B f g)) := by
    rintro x rfl l1
    refine go ok_Mo_isOwn [] 60 ?_
    exact And.intro (bI_or _) (And.intro rfl rfl)
  have rest : ∀ x, x = (isW T 0 R || (isW T 1 R || (isW T 2 R || isW T 3 R))) → Wp E (d + 7) m_Mo_isOwn 42 [some (vP 60 0), some (vI (bI x))] [] (mT B f g) (RP (vI (bI (own T R))) (mT B f g)) := by
    intro x hx
    refine go ok_Mo_isOwn [87] 60 ?_
    refine brN (fun c => ?_) (fun c => ?_)
    · refine fin true ?_ _
      unfold own; rw [← hx, c]; rfl
    · refine xq (d + 6) ok_Mo_isWord (hw 4 (by omega)) (by omega) ?_
      refine brN (fun c4 => ?_) (fun c4 => ?_)
      · refine fin true ?_ _
        unfold own; rw [c4, Bool.true_or, Bool.or_true]
      · refine xq (d + 6) ok_Mo_isWord (hw 5 (by omega)) (by omega) ?_
        refine brN (fun c5 => ?_) (fun c5 => ?_)
        · refine fin true ?_ _
          unfold own; rw [c5, Bool.true_or, Bool.or_true, Bool.or_true]
        · refine xq (d + 6) ok_Mo_isWord (hw 6 (by omega)) (by omega) ?_
          refine brN (fun c6 => ?_) (fun c6 => ?_)
          · refine fin true ?_ _
            unfold own; rw [c6, Bool.true_or, Bool.or_true, Bool.or_true, Bool.or_true]
          · refine xq (d + 6) ok_Mo_isWord (hw 7 (by omega)) (by omega) ?_
            refine brF (fun c7 => ?_) (fun c7 => ?_)
            · refine fin false ?_ _
              unfold own; rw [← hx, c, c4, c5, c6, c7]; rfl
            · refine fin true ?_ _
              unfold own; rw [c7, Bool.or_true, Bool.or_true, Bool.or_true, Bool.or_true]
  refine xq (d + 6) ok_Mo_isWord (hw 0 (by omega)) (by omega) ?_
  refine brN (fun c4 => ?_) (fun c4 => ?_)
  · exact rest true (by rw [c4]; rfl)
  · refine xq (d + 6) ok_Mo_isWord (hw 1 (by omega)) (by omega) ?_
    refine brN (fun c5 => ?_) (fun c5 => ?_)
    · exact rest true (by rw [c5, Bool.true_or, Bool.or_true])
    · refine xq (d + 6) ok_Mo_isWord (hw 2 (by omega)) (by omega) ?_
      refine brN (fun c6 => ?_) (fun c6 => ?_)
      · exact rest true (by rw [c6, Bool.true_or, Bool.or_true, Bool.or_true])
      · refine xq (d + 6) ok_Mo_isWord (hw 3 (by omega)) (by omega) ?_
        refine brF (fun c7 => ?_) (fun c7 => ?_)
        · exact rest false (by rw [c4, c5, c6, c7]; rfl)
        · exact rest true (by rw [c7, Bool.or_true, Bool.or_true, Bool.or_true])
theorem r_readWhole {f : Nat → Int32} {g : Int64} {R : FL ⊕ Nat} (hT : RTt T B) (lo hi : Nat) (hlo : lo < 2 ^ 31) (hhi : hi < 2 ^ 31) (h : TS T f g R) : Mt E (d + 3) m_Mo_readWhole [vP 60 0, vI (nI lo), vI (nI hi)] (mT B f g) (fun r M' => ∃ v, r = some (vI v) ∧ WhP T B v M' (whl T lo hi R)) := by
  generalize hQ : (fun r M' => ∃ v, r = some (vI v) ∧ WhP T B v M' (whl T lo hi R) : Option AV → Me → Prop) = Q
  have rest : ∀ R', (∀ M' v, TMe T B (gon T R') M' → (∀ b, R = .inr b → tK T b = 3 → v = nI (tN3 T b)) → WhP T B v M' (whl T lo hi R)) → ∀ M', TMe T B R' M' → (∀ b, R = .inr b → tK T b = 3 → M'.1 60 0 12 = nI (tN3 T b)) → Wp E (d + 3) m_Mo_readWhole 33 [some (vP 60 0), some (vI (nI lo)), some (vI (nI hi)), none] [] M' Q := by
    rintro R' hR M' ⟨f', g', rfl, h'⟩ hn
    refine go ok_Mo_readWhole [] 60 ?_
    refine xc (d + 2) ok_Mo_goOn (r_goOn E d hT h') (by omega) ?_
    rintro r M2 ⟨rfl, h2⟩
    rw [← hQ]
    exact ⟨_, rfl, hR _ _ h2 hn⟩
  have flw_n : ∀ (k : Nat) M', TMe T B (flw k R) M' → ∀ b, R = .inr b → tK T b = 3 → M'.1 60 0 12 = nI (tN3 T b) → True := fun _ _ _ _ _ _ _ => trivial
  refine Mt.go ok_Mo_readWhole [33] 60 rfl ?_
  match R, h, rest with
  | .inl q, h, rest =>
    have bad : ∀ M', TMe T B (.inl q) M' → Wp E (d + 3) m_Mo_readWhole 33 [some (vP 60 0), some (vI (nI lo)), some (vI (nI hi)), none] [] M' Q := fun M' hM => rest (.inl q) (fun M2 v h2 _ => h2) M' hM (fun b e => by cases e)
    refine And.intro (fun _ => ?_) (fun _ => ?_)
    · refine xq d ok_Mo_in (r_in E d _ _ _ _) (by omega) ?_
      refine brN (fun _ => ?_) (fun _ => ?_)
      · exact bad _ ⟨f, g, rfl, h⟩
      · refine xc d ok_Mo_flaw (r_flaw E d 2 (by omega) (by omega) h) (by omega) ?_
        rintro r M2 ⟨rfl, h2⟩
        exact bad _ h2
    · refine xc d ok_Mo_flaw (r_flaw E d 1 (by omega) (by omega) h) (by omega) ?_
      rintro r M2 ⟨rfl, h2⟩
      exact bad _ h2
  | .inr b, h, rest =>
    obtain ⟨h1, h2, h3, h4, h5, h6, h7, h8, h9⟩ := id h
    have hk := tK_lt T b
    refine qEq h5 rfl (by omega) (by omega) (fun e => ?_) (fun e => ?_)
    · have hn := tN3_lt e
      refine xq d ok_Mo_in (r_in E d _ _ _ _) (by omega) ?_
      have ein : (decide (nI lo ≤ (mT B f g).1 60 0 12) && decide ((mT B f g).1 60 0 12 ≤ nI hi)) = (decide (lo ≤ tN3 T b) && decide (tN3 T b ≤ hi)) := by
        rw [show (mT B f g).1 60 0 12 = nI (tN3 T b) from h8 e]
        congr 1 <;> exact decide_eq_decide.mpr (nI_leI (by omega) (by omega))
      rw [ein]
      refine brN (fun c => ?_) (fun c => ?_)
      · refine rest (.inr b) (fun M2 v q2 q3 => ?_) _ ⟨f, g, rfl, h⟩ (fun b' e' k' => by cases e'; exact h8 k')
        unfold whl
        dsimp only
        rw [decide_eq_true e, c]
        exact ⟨q3 b rfl e, q2⟩
      · refine xc d ok_Mo_flaw (r_flaw E d 2 (by omega) (by omega) h) (by omega) ?_
        rintro r M2 ⟨rfl, f2, g2, rfl, q2⟩
        have hr := rest (.inl (2, b)) (fun M2 v q2 q3 => by
          unfold whl
          dsimp only
          rw [decide_eq_true e, c]
          exact q2)
        refine go ok_Mo_readWhole [] 60 ?_
        refine xc (d + 2) ok_Mo_goOn (r_goOn E d hT q2) (by omega) ?_
        rintro r M2 ⟨rfl, h2⟩
        rw [← hQ]
        refine ⟨_, rfl, ?_⟩
        unfold whl
        dsimp only
        rw [decide_eq_true e, c]
        exact h2
    · refine xc d ok_Mo_flaw (r_flaw E d 1 (by omega) (by omega) h) (by omega) ?_
      rintro r M2 ⟨rfl, q2⟩
      refine rest (.inl (1, b)) (fun M2 v q2 q3 => ?_) _ q2 (fun b' e' k' => ?_)
      · unfold whl
        dsimp only
        rw [decide_eq_false e]
        exact q2
      · cases e'; exact absurd k' e
end P3
