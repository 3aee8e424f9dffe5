/-! the reference: its tokens -/
def flw (k : Nat) : FL ⊕ Nat → FL ⊕ Nat
  | .inl q => .inl q
  | .inr b => .inl (k, b)
def gon (T : TT) : FL ⊕ Nat → FL ⊕ Nat
  | .inl q => .inl q
  | .inr b => .inr (tX T b)
theorem wd_step {w c : Nat} (h1 : 97 ≤ c) (h2 : c ≤ 122) : lN w * lN 32 + (nI c).toInt64 - lN 97 + lN 1 = lN (w * 32 + (c - 96)) := by
  rw [nI_l (by omega), lN_mul, lN_add, lN_sub (by omega), lN_add]
  congr 1
  omega
theorem dg_step {w c : Nat} (h1 : 48 ≤ c) (h2 : c ≤ 57) : nI 10 * nI w + nI c - nI 48 = nI (10 * w + (c - 48)) := by
  rw [nI_mul, nI_s8, pk_sub (by omega)]
  congr 1
  omega
section P2
variable (E : EV) (d : Nat) {T : TT} {B : Me}
theorem r_flaw {f : Nat → Int32} {g : Int64} {R : FL ⊕ Nat} (k : Nat) (hk1 : 1 ≤ k) (hk : k < 100) (h : TS T f g R) : Mt E d m_Mo_flaw [vP 60 0, vI (nI k)] (mT B f g) (fun r M' => r = none ∧ TMe T B (flw k R) M') := by
  refine Mt.go ok_Mo_flaw [] 20 rfl ?_
  match R, h with
  | .inl q, h =>
    obtain ⟨h1, h2, h3, h4, h5⟩ := h
    refine qLe h2 rfl (by omega) (by omega) (fun e => absurd e (by omega)) (fun _ => ?_)
    exact And.intro rfl ⟨f, g, rfl, h1, h2, h3, h4, h5⟩
  | .inr b, h =>
    obtain ⟨h1, h2, h3, h4, h5, h6, h7⟩ := h
    refine qLe h2 rfl (by omega) (by omega) (fun _ => ?_) (fun e => absurd e (by omega))
    refine And.intro rfl ⟨fU (fU f 7 (nI k)) 8 (f 10), g, ?_, h1, rfl, hk1, hk, h6⟩
    rw [← mT_sI (by omega) (by omega), ← mT_sI (by omega) (by omega)]
    rfl
theorem r_isLetterAt {f : Nat → Int32} {g : Int64} (hT : RTt T B) (h5 : f 5 = nI T.2) (a : Nat) (ha : a ≤ 700) : Mt E (d + 1) m_Mo_isLetterAt [vP 60 0, vI (nI a)] (mT B f g) (RP (vI (bI (tLe T a))) (mT B f g)) := by
  obtain ⟨t1, t2, t3⟩ := hT
  refine Mt.go ok_Mo_isLetterAt [] 60 rfl ?_
  refine qLe h5 rfl (by omega) (by omega) (fun q => ?_) (fun q => ?_)
  · refine And.intro (Or.inl rfl) (And.intro ?_ rfl)
    unfold tLe; rw [decide_eq_false (show ¬ a < T.2 by omega)]; rfl
  · refine ix a (show _ < 700 by omega) rfl ?_
    refine xq d ok_Mo_in (r_in E d _ _ _ _) (by omega) ?_
    have e : (decide (nI 97 ≤ (mT B f g).1 61 0 a) && decide ((mT B f g).1 61 0 a ≤ nI 122)) = tLe T a := by
      have e1 : (mT B f g).1 61 0 a = nI (T.1 a) := t2 a (by omega)
      have e2 := t3 a
      rw [e1]
      unfold tLe
      rw [decide_eq_true (show a < T.2 by omega), Bool.true_and]
      congr 1 <;> exact decide_eq_decide.mpr (nI_leI (by omega) (by omega))
    rw [e]
    refine brF (fun c => ?_) (fun c => ?_)
    · exact And.intro (Or.inl rfl) (And.intro (by rw [c]; rfl) rfl)
    · exact And.intro (Or.inr rfl) (And.intro (by rw [c]; rfl) rfl)
theorem r_isDigitAt {f : Nat → Int32} {g : Int64} (hT : RTt T B) (h5 : f 5 = nI T.2) (a : Nat) (ha : a ≤ 700) : Mt E (d + 1) m_Mo_isDigitAt [vP 60 0, vI (nI a)] (mT B f g) (RP (vI (bI (tDi T a))) (mT B f g)) := by
  obtain ⟨t1, t2, t3⟩ := hT
  refine Mt.go ok_Mo_isDigitAt [] 60 rfl ?_
  refine qLe h5 rfl (by omega) (by omega) (fun q => ?_) (fun q => ?_)
  · refine And.intro (Or.inl rfl) (And.intro ?_ rfl)
    unfold tDi; rw [decide_eq_false (show ¬ a < T.2 by omega)]; rfl
  · refine ix a (show _ < 700 by omega) rfl ?_
    refine xq d ok_Mo_in (r_in E d _ _ _ _) (by omega) ?_
    have e : (decide (nI 48 ≤ (mT B f g).1 61 0 a) && decide ((mT B f g).1 61 0 a ≤ nI 57)) = tDi T a := by
      have e1 : (mT B f g).1 61 0 a = nI (T.1 a) := t2 a (by omega)
      have e2 := t3 a
      rw [e1]
      unfold tDi
      rw [decide_eq_true (show a < T.2 by omega), Bool.true_and]
      congr 1 <;> exact decide_eq_decide.mpr (nI_leI (by omega) (by omega))
    rw [e]
    refine brF (fun c => ?_) (fun c => ?_)
    · exact And.intro (Or.inl rfl) (And.intro (by rw [c]; rfl) rfl)
    · exact And.intro (Or.inr rfl) (And.intro (by rw [c]; rfl) rfl)
theorem r_goOn0 {f : Nat → Int32} {g : Int64} (hT : RTt T B) (a : Nat) (h5 : f 5 = nI T.2) (h7 : f 7 = nI 0) (ha : a ≤ T.2) (h6 : f 6 = nI a) : Mt E (d + 2) m_Mo_goOn [vP 60 0] (mT B f g) (fun r M' => r = none ∧ TMe T B (.inr (tB T a)) M') := by
  obtain ⟨t1, t2, t3⟩ := id hT
  generalize hb : tB T a = b
  generalize hQ : (fun r M' => r = none ∧ TMe T B (.inr b) M' : Option AV → Me → Prop) = Q
  -- a sign
  have w284 : ∀ f g, f 5 = nI T.2 → f 7 = nI 0 → b < T.2 → f 6 = nI b → f 10 = nI b → tLe T b = false → tDi T b = false → Wp E (d + 2) m_Mo_goOn 284 [some (vP 60 0)] [] (mT B f g) Q := by
    intro f g h5 h7 hbl h6 h10 hl hd
    have hnb : decide (b = T.2) = false := decide_eq_false (by omega)
    have hE : tE T b = b + 1 := by unfold tE; rw [hnb, hl, hd]; rfl
    have hK : tK T b = bif (decide (T.1 b = 59) || decide (T.1 b = 44)) then 4 else 0 := by unfold tK; rw [hnb, hl, hd]; rfl
    have eT : (mT B f g).1 61 0 b = nI (T.1 b) := t2 b (by omega)
    have hB := t3 b
    have fin : ∀ x, x = nI (tK T b) → Wp E (d + 2) m_Mo_goOn 321 [some (vP 60 0)] [vI x, vP 60 0] (sI (mT B f g) 60 0 11 (nI (T.1 b))) Q := by
      rintro x rfl
      refine go ok_Mo_goOn [] 40 ?_
      rw [← hQ]
      refine And.intro rfl ⟨fU (fU (fU f 11 (nI (T.1 b))) 9 (nI (tK T b))) 6 (f 6 + nI 1), g, ?_, h5, h7, by omega, ?_, rfl, h10, fun _ => rfl, fun e => ?_, fun e => ?_⟩
      · rw [← mT_sI (by omega) (by omega), ← mT_sI (by omega) (by omega), ← mT_sI (by omega) (by omega)]; rfl
      · show f 6 + nI 1 = _
        rw [h6, nI_add, hE]
      · rw [hK] at e; cases hc : (decide (T.1 b = 59) || decide (T.1 b = 44)) <;> rw [hc] at e <;> cases e
      · rw [hK] at e; cases hc : (decide (T.1 b = 59) || decide (T.1 b = 44)) <;> rw [hc] at e <;> cases e
    refine go ok_Mo_goOn [321] 40 ?_
    refine ix b (show _ < 700 by omega) h6 ?_
    rw [eT]
    refine cEq (by omega) (by omega) (fun q => ?_) (fun q => ?_)
    · refine fin _ ?_
      rw [hK, decide_eq_true q]; rfl
    · refine cNe (by omega) (by omega) (fun q2 => ?_) (fun q2 => ?_)
      · refine fin _ ?_
        rw [hK, decide_eq_false q, decide_eq_false q2]; rfl
      · refine fin _ ?_
        rw [hK, decide_eq_true q2, Bool.or_true]; rfl
  -- digits
  have w198 : tDi T b = true → tLe T b = false → ∀ a, a ≤ T.2 → b ≤ a → rnU (tDi T) a = rnU (tDi T) b → (∀ k, b ≤ k → k < a → tDi T k = true) → ∀ f g, f 5 = nI T.2 → f 7 = nI 0 → f 6 = nI a → f 10 = nI b → f 12 = nI (dgV (fun i => T.1 (b + i)) (min (a - b) 3)) → Wp E (d + 2) m_Mo_goOn 198 [some (vP 60 0)] [] (mT B f g) Q := by
    intro hdb hlb
    have hbl := tDi_lt hdb
    have hnb : decide (b = T.2) = false := decide_eq_false (by omega)
    have hE : tE T b = rnU (tDi T) b := by unfold tE; rw [hnb, hlb, hdb]; rfl
    have hK : tK T b = if 3 < rnU (tDi T) b - b then 0 else 3 := by unfold tK; rw [hnb, hlb, hdb]; rfl
    have out : ∀ a, a ≤ T.2 → b ≤ a → rnU (tDi T) a = rnU (tDi T) b → tDi T a = false → ∀ f g, f 5 = nI T.2 → f 7 = nI 0 → f 6 = nI a → f 10 = nI b → f 12 = nI (dgV (fun i => T.1 (b + i)) (min (a - b) 3)) → Wp E (d + 2) m_Mo_goOn 198 [some (vP 60 0)] [] (mT B f g) Q := by
      intro a ha hba hr hda f g h5 h7 h6 h10 h12
      have hra : rnU (tDi T) b = a := by rw [← hr]; exact rnU_f hda
      refine go ok_Mo_goOn [] 60 ?_
      have hx := r_isDigitAt E d (g := g) hT h5 a (by omega)
      rw [hda, ← h6] at hx
      refine xq (d + 1) ok_Mo_isDigitAt hx (by omega) ?_
      refine And.intro (fun _ => ?_) (fun e => absurd rfl e)
      have e1 : (mT B f g).1 60 0 6 - (mT B f g).1 60 0 10 = nI (a - b) := by
        show f 6 - f 10 = _
        rw [h6, h10, pk_sub hba]
      refine qLe e1 rfl (by omega) (by omega) (fun q => ?_) (fun q => ?_)
      · have hK3 : tK T b = 3 := by rw [hK, hra, if_neg (by omega)]
        rw [← hQ]
        refine And.intro rfl ⟨fU f 9 (nI 3), g, ?_, h5, h7, by omega, ?_, ?_, h10, fun e => ?_, fun e => ?_, fun e => ?_⟩
        · rw [← mT_sI (by omega) (by omega)]
        · show f 6 = _; rw [h6, hE, hra]
        · rw [hK3]; rfl
        · rw [hK3] at e; cases e
        · show f 12 = _
          unfold tN3 tL
          rw [hE, hra, h12, Nat.min_eq_left (by omega)]
        · rw [hK3] at e; cases e
      · have hK3 : tK T b = 0 := by rw [hK, hra, if_pos (by omega)]
        rw [← hQ]
        refine And.intro rfl ⟨fU f 9 (nI 0), g, ?_, h5, h7, by omega, ?_, ?_, h10, fun e => ?_, fun e => ?_, fun e => ?_⟩
        · rw [← mT_sI (by omega) (by omega)]
        · show f 6 = _; rw [h6, hE, hra]
        · rw [hK3]; rfl
        · rw [hK3] at e; cases e
        · rw [hK3] at e; cases e
        · rw [hK3] at e; cases e
    refine loopUp T.2 ?_ ?_
    · intro hba hr _ f g h5 h7 h6 h10 h12
      refine out T.2 (Nat.le_refl _) hba hr ?_ f g h5 h7 h6 h10 h12
      cases hc : tDi T T.2 with
      | false => rfl
      | true => exact absurd (tDi_lt hc) (Nat.lt_irrefl _)
    · intro a hlt ih hba hr hin f g h5 h7 h6 h10 h12
      cases hda : tDi T a with
      | false => exact out a (by omega) hba hr hda f g h5 h7 h6 h10 h12
      | true =>
        refine go ok_Mo_goOn [198, 246] 60 ?_
        have hx := r_isDigitAt E d (g := g) hT h5 a (by omega)
        rw [hda, ← h6] at hx
        refine xq (d + 1) ok_Mo_isDigitAt hx (by omega) ?_
        refine And.intro (fun e => absurd e (by decide)) (fun _ => ?_)
        have hd2 := hda
        unfold tDi at hd2
        simp only [Bool.and_eq_true, decide_eq_true_eq] at hd2
        have hr2 : rnU (tDi T) (a + 1) = rnU (tDi T) b := by rw [← hr]; exact (rnU_t hda (by omega)).symm
        have hin2 : ∀ k, b ≤ k → k < a + 1 → tDi T k = true := fun k k1 k2 => by
          rcases Nat.lt_or_ge k a with e | e
          · exact hin k k1 e
          · rw [show k = a by omega]; exact hda
        have tail : ∀ f g, f 5 = nI T.2 → f 7 = nI 0 → f 6 = nI a → f 10 = nI b → f 12 = nI (dgV (fun i => T.1 (b + i)) (min (a + 1 - b) 3)) → Wp E (d + 2) m_Mo_goOn 246 [some (vP 60 0)] [] (mT B f g) Q := by
          intro f g h5 h7 h6 h10 h12
          refine go ok_Mo_goOn [198] 60 ?_
          have := ih (by omega) hr2 hin2 (fU f 6 (f 6 + nI 1)) g h5 h7 (by show f 6 + nI 1 = _; rw [h6, nI_add]) h10 h12
          rw [← mT_sI (by omega) (by omega)] at this
          exact this
        have e1 : (mT B f g).1 60 0 6 - (mT B f g).1 60 0 10 = nI (a - b) := by
          show f 6 - f 10 = _
          rw [h6, h10, pk_sub hba]
        refine qLe rfl e1 (by omega) (by omega) (fun q => ?_) (fun q => ?_)
        · refine tail f g h5 h7 h6 h10 ?_
          rw [h12, Nat.min_eq_right (by omega), Nat.min_eq_right (by omega)]
        · refine ix a (show _ < 700 by omega) h6 ?_
          have eT : (mT B f g).1 61 0 a = nI (T.1 a) := t2 a (by omega)
          have e12 : nI 10 * (mT B f g).1 60 0 12 + (mT B f g).1 61 0 a - nI 48 = nI (dgV (fun i => T.1 (b + i)) (min (a + 1 - b) 3)) := by
            rw [eT, show (mT B f g).1 60 0 12 = _ from h12, dg_step hd2.2.1 hd2.2.2, Nat.min_eq_left (by omega), Nat.min_eq_left (by omega), show a + 1 - b = (a - b) + 1 by omega, dgV, show b + (a - b) = a by omega]
          have := tail (fU f 12 (nI 10 * (mT B f g).1 60 0 12 + (mT B f g).1 61 0 a - nI 48)) g h5 h7 h6 h10 e12
          rw [← mT_sI (by omega) (by omega)] at this
          exact this
  -- letters
  have w89 : tLe T b = true → ∀ a, a ≤ T.2 → b ≤ a → rnU (tLe T) a = rnU (tLe T) b → ∀ f g, f 5 = nI T.2 → f 7 = nI 0 → f 6 = nI a → f 10 = nI b → g = lN (wdV (fun i => T.1 (b + i)) (min (a - b) 8)) → Wp E (d + 2) m_Mo_goOn 89 [some (vP 60 0)] [] (mT B f g) Q := by
    intro hlb
    have hbl := tLe_lt hlb
    have hnb : decide (b = T.2) = false := decide_eq_false (by omega)
    have hE : tE T b = rnU (tLe T) b := by unfold tE; rw [hnb, hlb]; rfl
    have hK : tK T b = if 8 < rnU (tLe T) b - b then 0 else 2 := by unfold tK; rw [hnb, hlb]; rfl
    have out : ∀ a, a ≤ T.2 → b ≤ a → rnU (tLe T) a = rnU (tLe T) b → tLe T a = false → ∀ f g, f 5 = nI T.2 → f 7 = nI 0 → f 6 = nI a → f 10 = nI b → g = lN (wdV (fun i => T.1 (b + i)) (min (a - b) 8)) → Wp E (d + 2) m_Mo_goOn 89 [some (vP 60 0)] [] (mT B f g) Q := by
      intro a ha hba hr hda f g h5 h7 h6 h10 h12
      have hra : rnU (tLe T) b = a := by rw [← hr]; exact rnU_f hda
      refine go ok_Mo_goOn [] 60 ?_
      have hx := r_isLetterAt E d (g := g) hT h5 a (by omega)
      rw [hda, ← h6] at hx
      refine xq (d + 1) ok_Mo_isLetterAt hx (by omega) ?_
      refine And.intro (fun _ => ?_) (fun e => absurd rfl e)
      have e1 : (mT B f g).1 60 0 6 - (mT B f g).1 60 0 10 = nI (a - b) := by
        show f 6 - f 10 = _
        rw [h6, h10, pk_sub hba]
      refine qLe e1 rfl (by omega) (by omega) (fun q => ?_) (fun q => ?_)
      · have hK3 : tK T b = 2 := by rw [hK, hra, if_neg (by omega)]
        rw [← hQ]
        refine And.intro rfl ⟨fU f 9 (nI 2), g, ?_, h5, h7, by omega, ?_, ?_, h10, fun e => ?_, fun e => ?_, fun e => ?_⟩
        · rw [← mT_sI (by omega) (by omega)]
        · show f 6 = _; rw [h6, hE, hra]
        · rw [hK3]; rfl
        · rw [hK3] at e; cases e
        · rw [hK3] at e; cases e
        · unfold tW tL
          rw [hE, hra, h12, Nat.min_eq_left (by omega)]
      · have hK3 : tK T b = 0 := by rw [hK, hra, if_pos (by omega)]
        rw [← hQ]
        refine And.intro rfl ⟨fU f 9 (nI 0), g, ?_, h5, h7, by omega, ?_, ?_, h10, fun e => ?_, fun e => ?_, fun e => ?_⟩
        · rw [← mT_sI (by omega) (by omega)]
        · show f 6 = _; rw [h6, hE, hra]
        · rw [hK3]; rfl
        · rw [hK3] at e; cases e
        · rw [hK3] at e; cases e
        · rw [hK3] at e; cases e
    refine loopUp T.2 ?_ ?_
    · intro hba hr f g h5 h7 h6 h10 h12
      refine out T.2 (Nat.le_refl _) hba hr ?_ f g h5 h7 h6 h10 h12
      cases hc : tLe T T.2 with
      | false => rfl
      | true => exact absurd (tLe_lt hc) (Nat.lt_irrefl _)
    · intro a hlt ih hba hr f g h5 h7 h6 h10 h12
      cases hda : tLe T a with
      | false => exact out a (by omega) hba hr hda f g h5 h7 h6 h10 h12
      | true =>
        refine go ok_Mo_goOn [89, 143] 60 ?_
        have hx := r_isLetterAt E d (g := g) hT h5 a (by omega)
        rw [hda, ← h6] at hx
        refine xq (d + 1) ok_Mo_isLetterAt hx (by omega) ?_
        refine And.intro (fun e => absurd e (by decide)) (fun _ => ?_)
        have hd2 := hda
        unfold tLe at hd2
        simp only [Bool.and_eq_true, decide_eq_true_eq] at hd2
        have hr2 : rnU (tLe T) (a + 1) = rnU (tLe T) b := by rw [← hr]; exact (rnU_t hda (by omega)).symm
        have tail : ∀ f g, f 5 = nI T.2 → f 7 = nI 0 → f 6 = nI a → f 10 = nI b → g = lN (wdV (fun i => T.1 (b + i)) (min (a + 1 - b) 8)) → Wp E (d + 2) m_Mo_goOn 143 [some (vP 60 0)] [] (mT B f g) Q := by
          intro f g h5 h7 h6 h10 h12
          refine go ok_Mo_goOn [89] 60 ?_
          have := ih (by omega) hr2 (fU f 6 (f 6 + nI 1)) g h5 h7 (by show f 6 + nI 1 = _; rw [h6, nI_add]) h10 h12
          rw [← mT_sI (by omega) (by omega)] at this
          exact this
        have e1 : (mT B f g).1 60 0 6 - (mT B f g).1 60 0 10 = nI (a - b) := by
          show f 6 - f 10 = _
          rw [h6, h10, pk_sub hba]
        refine qLe rfl e1 (by omega) (by omega) (fun q => ?_) (fun q => ?_)
        · refine tail f g h5 h7 h6 h10 ?_
          rw [h12, Nat.min_eq_right (by omega), Nat.min_eq_right (by omega)]
        · refine ix a (show _ < 700 by omega) h6 ?_
          have eT : (mT B f g).1 61 0 a = nI (T.1 a) := t2 a (by omega)
          have e12 : g * lN 32 + ((mT B f g).1 61 0 a).toInt64 - lN 97 + lN 1 = lN (wdV (fun i => T.1 (b + i)) (min (a + 1 - b) 8)) := by
            rw [eT, h12, wd_step hd2.2.1 hd2.2.2, Nat.min_eq_left (by omega), Nat.min_eq_left (by omega), show a + 1 - b = (a - b) + 1 by omega, wdV, show b + (a - b) = a by omega]
          have := tail f (g * lN 32 + ((mT B f g).1 61 0 a).toInt64 - lN 97 + lN 1) h5 h7 h6 h10 e12
          rw [← mT_sJ (g := g)] at this
          exact this
  have w46 : ∀ f g, f 5 = nI T.2 → f 7 = nI 0 → b ≤ T.2 → f 6 = nI b → Wp E (d + 2) m_Mo_goOn 46 [some (vP 60 0)] [] (mT B f g) Q := by
    intro f g h5 h7 hbl h6
    refine go ok_Mo_goOn [73] 60 ?_
    have h5' : (sI (mT B f g) 60 0 10 (f 6)).1 60 0 5 = nI T.2 := h5
    have h6' : (sI (mT B f g) 60 0 10 (f 6)).1 60 0 6 = nI b := h6
    refine qNe h6' h5' (by omega) (by omega) (fun q => ?_) (fun q => ?_)
    · have w73 : ∀ f g, f 5 = nI T.2 → f 7 = nI 0 → f 6 = nI b → f 10 = nI b → Wp E (d + 2) m_Mo_goOn 73 [some (vP 60 0)] [] (mT B f g) Q := by
        intro f g h5 h7 h6 h10
        refine go ok_Mo_goOn [89, 198, 284] 60 ?_
        have hx := r_isLetterAt E d (g := g) hT h5 b (by omega)
        rw [← h6] at hx
        refine xq (d + 1) ok_Mo_isLetterAt hx (by omega) ?_
        refine brF (fun hl => ?_) (fun hl => ?_)
        · have hx := r_isDigitAt E d (g := g) hT h5 b (by omega)
          rw [← h6] at hx
          refine xq (d + 1) ok_Mo_isDigitAt hx (by omega) ?_
          refine brF (fun hd => ?_) (fun hd => ?_)
          · exact w284 f g h5 h7 (by omega) h6 h10 hl hd
          · have := w198 hd hl b hbl (Nat.le_refl _) rfl (fun k k1 k2 => absurd k2 (by omega)) (fU f 12 (nI 0)) g h5 h7 h6 h10 (by rw [Nat.sub_self]; rfl)
            rw [← mT_sI (by omega) (by omega)] at this
            exact this
        · have := w89 hl b hbl (Nat.le_refl _) rfl f (lN 0) h5 h7 h6 h10 (by rw [Nat.sub_self]; rfl)
          rw [← mT_sJ (g := g)] at this
          exact this
      have := w73 (fU f 10 (f 6)) g h5 h7 h6 h6
      rw [← mT_sI (by omega) (by omega)] at this
      exact this
    · have hd0 : decide (b = T.2) = true := decide_eq_true q
      have hK : tK T b = 1 := by unfold tK; rw [hd0]; rfl
      rw [← hQ]
      refine And.intro rfl ⟨fU (fU f 10 (f 6)) 9 (nI 1), g, ?_, h5, h7, by omega, ?_, ?_, h6, fun e => ?_, fun e => ?_, fun e => ?_⟩
      · rw [← mT_sI (by omega) (by omega), ← mT_sI (by omega) (by omega)]; rfl
      · show f 6 = _
        rw [h6]; unfold tE; rw [hd0]; rfl
      · rw [hK]; rfl
      · rw [hK] at e; cases e
      · rw [hK] at e; cases e
      · rw [hK] at e; cases e
  have w8 : ∀ a, a ≤ T.2 → tB T a = b → ∀ f g, f 5 = nI T.2 → f 7 = nI 0 → f 6 = nI a → Wp E (d + 2) m_Mo_goOn 8 [some (vP 60 0)] [] (mT B f g) Q := by
    refine loopUp T.2 ?_ ?_
    · intro hb f g h5 h7 h6
      have : tSp T T.2 = false := by
        cases hc : tSp T T.2 with
        | false => rfl
        | true => exact absurd (tSp_lt hc) (Nat.lt_irrefl _)
      have e : b = T.2 := by rw [← hb]; exact rnU_f this
      refine go ok_Mo_goOn [46] 60 ?_
      refine qLe h5 h6 (by omega) (by omega) (fun _ => ?_) (fun q => absurd q (by omega))
      exact w46 f g h5 h7 (by omega) (by rw [h6, e])
    · intro a hlt ih hb f g h5 h7 h6
      have eT : (mT B f g).1 61 0 a = nI (T.1 a) := t2 a (by omega)
      have hB := t3 a
      refine go ok_Mo_goOn [46, 8] 60 ?_
      refine qLe h5 h6 (by omega) (by omega) (fun q => absurd q (by omega)) (fun _ => ?_)
      refine ix a (show _ < 700 by omega) h6 ?_
      refine qNe eT rfl (by omega) (by omega) (fun q => ?_) (fun q => ?_)
      · have : tSp T a = false := by unfold tSp; rw [decide_eq_false q, Bool.and_false]
        have e : b = a := by rw [← hb]; exact rnU_f this
        exact w46 f g h5 h7 (by omega) (by rw [h6, e])
      · have : tSp T a = true := by unfold tSp; rw [decide_eq_true q, decide_eq_true hlt]; rfl
        have := ih (by rw [← hb]; exact (rnU_t this (by omega)).symm) (fU f 6 (f 6 + nI 1)) g h5 h7 (by show f 6 + nI 1 = _; rw [h6, nI_add])
        rw [← mT_sI (by omega) (by omega)] at this
        exact this
  refine Mt.go ok_Mo_goOn [8] 20 rfl ?_
  refine qLe h7 rfl (by omega) (by omega) (fun _ => ?_) (fun e => absurd e (by omega))
  exact w8 a ha hb f g h5 h7 h6
theorem r_goOn {f : Nat → Int32} {g : Int64} {R : FL ⊕ Nat} (hT : RTt T B) (h : TS T f g R) : Mt E (d + 2) m_Mo_goOn [vP 60 0] (mT B f g) (fun r M' => r = none ∧ TMe T B (gon T R) M') := by
  match R, h with
  | .inl q, h =>
    refine Mt.go ok_Mo_goOn [8] 20 rfl ?_
    obtain ⟨h1, h2, h3, h4, h5⟩ := h
    refine qLe h2 rfl (by omega) (by omega) (fun e => absurd e (by omega)) (fun _ => ?_)
    exact And.intro rfl ⟨f, g, rfl, h1, h2, h3, h4, h5⟩
  | .inr b, h =>
    exact r_goOn0 E d hT (tE T b) h.1 h.2.1 (tE_le h.2.2.1) h.2.2.2.1
end P2
