/-! the class: its reader's tokens -/
def ck (k : Nat) : Nat := if k = 0 then 4 else k - 1
def kOf (b : Nat) : Nat := if 97 ≤ b ∧ b ≤ 122 then 1 else if 48 ≤ b ∧ b ≤ 57 then 2 else if b = 59 ∨ b = 44 then 3 else 4
def mC (B : Me) (f : Nat → Int32) : Me := (fun i r k => cond (Nat.beq i 3 && (Nat.beq r 0 && (Nat.ble 1 k && Nat.ble k 8))) (f k) (B.1 i r k), B.2)
theorem mC_sI {B : Me} {f : Nat → Int32} {k0 : Nat} {x : Int32} (h1 : 1 ≤ k0) (h2 : k0 ≤ 8) : sI (mC B f) 3 0 k0 x = mC B (fU f k0 x) := by
  unfold sI mC up3 fU
  refine Prod.ext ?_ rfl
  funext i r k
  dsimp only
  cases hi : Nat.beq i 3
  · rfl
  · cases hr : Nat.beq r 0
    · cases Nat.beq k k0 <;> rfl
    · cases hk : Nat.beq k k0
      · rfl
      · have e := Nat.beq_eq.mp hk
        subst e
        rw [Nat.ble_eq_true_of_le h1, Nat.ble_eq_true_of_le h2]; rfl
theorem mC_sIo {B : Me} {f : Nat → Int32} {i r k0 : Nat} {x : Int32} (h : i ≠ 3) : sI (mC B f) i r k0 x = mC (sI B i r k0 x) f := by
  unfold sI mC up3
  refine Prod.ext ?_ rfl
  funext a b k
  dsimp only
  cases hc : (Nat.beq a i && (Nat.beq k k0 && Nat.beq b r)) with
  | false => rfl
  | true =>
    cases hd : (Nat.beq a 3 && (Nat.beq b 0 && (Nat.ble 1 k && Nat.ble k 8))) with
    | false => rfl
    | true =>
      simp only [Bool.and_eq_true, Nat.beq_eq, Nat.ble_eq] at hc hd
      exact absurd (hc.1.symm.trans hd.1) h
theorem mC_self (B : Me) : mC B (B.1 3 0) = B := by
  unfold mC
  refine Prod.ext ?_ rfl
  funext i r k
  dsimp only
  cases hi : Nat.beq i 3
  · rfl
  · cases hr : Nat.beq r 0
    · rfl
    · have e1 := Nat.beq_eq.mp hi
      have e2 := Nat.beq_eq.mp hr
      subst e1; subst e2
      cases Nat.ble 1 k && Nat.ble k 8 <;> rfl
def CT (T : TT) (f : Nat → Int32) : FL ⊕ Nat → Prop
  | .inl q => f 7 = nI q.1 ∧ f 8 = nI q.2
  | .inr b => f 1 = nI T.2 ∧ b ≤ T.2 ∧ f 2 = nI (tE T b) ∧ f 3 = nI (ck (tK T b)) ∧ f 4 = nI b ∧ f 5 = nI (tL T b) ∧ (tK T b = 3 → f 6 = nI (tN3 T b)) ∧ (tK T b = 4 → f 6 = nI (T.1 b)) ∧ f 7 = nI 0
def CTp (T : TT) (B : Me) : Prop := T.2 ≤ 700 ∧ (∃ c, B.1 1 0 1 = nI c ∧ T.2 ≤ c ∧ c ≤ 700 ∧ ∀ k, k < c → B.1 2 0 k &&& nI 255 = nI (T.1 k)) ∧ ∀ k, T.1 k < 256
def CMe (T : TT) (B : Me) (R : FL ⊕ Nat) (M : Me) : Prop := ∃ f, M = mC B f ∧ CT T f R
theorem tLe_k {T : TT} {k : Nat} (h : k < T.2) : tLe T k = decide (kOf (T.1 k) = 1) := by
  unfold tLe kOf
  rw [decide_eq_true h, Bool.true_and]
  by_cases c : 97 ≤ T.1 k ∧ T.1 k ≤ 122
  · rw [if_pos c, decide_eq_true c.1, decide_eq_true c.2]; rfl
  · rw [if_neg c]
    have e2 : decide ((if 48 ≤ T.1 k ∧ T.1 k ≤ 57 then 2 else if T.1 k = 59 ∨ T.1 k = 44 then 3 else 4) = 1) = false := by
      refine decide_eq_false (fun e => ?_)
      split at e
      · omega
      · split at e <;> omega
    rw [e2]
    by_cases c1 : 97 ≤ T.1 k
    · rw [decide_eq_false (show ¬ T.1 k ≤ 122 from fun z => c ⟨c1, z⟩), Bool.and_false]
    · rw [decide_eq_false c1]; rfl
theorem tDi_k {T : TT} {k : Nat} (h : k < T.2) : tDi T k = decide (kOf (T.1 k) = 2) := by
  unfold tDi kOf
  rw [decide_eq_true h, Bool.true_and]
  by_cases c : 97 ≤ T.1 k ∧ T.1 k ≤ 122
  · rw [if_pos c, decide_eq_false (show ¬ T.1 k ≤ 57 by omega), Bool.and_false]; rfl
  · rw [if_neg c]
    by_cases c2 : 48 ≤ T.1 k ∧ T.1 k ≤ 57
    · rw [if_pos c2, decide_eq_true c2.1, decide_eq_true c2.2]; rfl
    · rw [if_neg c2]
      have e2 : decide ((if T.1 k = 59 ∨ T.1 k = 44 then 3 else 4) = 2) = false := by
        refine decide_eq_false (fun e => ?_)
        split at e <;> omega
      rw [e2]
      by_cases c1 : 48 ≤ T.1 k
      · rw [decide_eq_false (show ¬ T.1 k ≤ 57 from fun z => c2 ⟨c1, z⟩), Bool.and_false]
      · rw [decide_eq_false c1]; rfl
theorem kOf_b (b : Nat) : 1 ≤ kOf b ∧ kOf b ≤ 4 := by
  unfold kOf
  split
  · omega
  · split
    · omega
    · split <;> omega
theorem dg_st {w c : Nat} (h1 : 48 ≤ c) : nI w * nI 10 + nI c - nI 48 = nI (10 * w + (c - 48)) := by
  rw [nI_mul, nI_s8, pk_sub (by omega)]
  congr 1
  omega
/-- words with the same number are the same -/
theorem wd_inj {f g : Nat → Nat} : ∀ (l l' : Nat), (∀ i, i < l → 97 ≤ f i ∧ f i ≤ 122) → (∀ i, i < l' → 97 ≤ g i ∧ g i ≤ 122) → wdV f l = wdV g l' → l = l' ∧ ∀ i, i < l → f i = g i
  | 0, 0, _, _, _ => ⟨rfl, fun i hi => absurd hi (Nat.not_lt_zero _)⟩
  | 0, l' + 1, _, hg, h => by
    rw [wdV, wdV] at h
    have := hg l' (by omega)
    omega
  | l + 1, 0, hf, _, h => by
    rw [wdV, wdV] at h
    have := hf l (by omega)
    omega
  | l + 1, l' + 1, hf, hg, h => by
    rw [wdV, wdV] at h
    have a := hf l (by omega)
    have b := hg l' (by omega)
    have h1 : wdV f l = wdV g l' := by omega
    have h2 : f l = g l' := by omega
    obtain ⟨e, h3⟩ := wd_inj l l' (fun i hi => hf i (by omega)) (fun i hi => hg i (by omega)) h1
    subst e
    refine ⟨rfl, fun i hi => ?_⟩
    by_cases c : i = l
    · rw [c]; exact h2
    · exact h3 i (by omega)
/-- a word's letters -/
theorem tW_lt2 {T : TT} {b : Nat} (h : tK T b = 2) : b < T.2 ∧ tL T b ≤ 8 ∧ (∀ i, i < tL T b → 97 ≤ T.1 (b + i) ∧ T.1 (b + i) ≤ 122) ∧ b + tL T b = tE T b := by
  unfold tK at h
  cases h0 : decide (b = T.2) with
  | true => rw [h0] at h; cases h
  | false =>
    rw [h0, cond_false] at h
    cases h1 : tLe T b with
    | false =>
      rw [h1, cond_false] at h
      cases h2 : tDi T b with
      | true => rw [h2, cond_true] at h; split at h <;> cases h
      | false =>
        rw [h2, cond_false] at h
        cases hc : (decide (T.1 b = 59) || decide (T.1 b = 44)) <;> rw [hc] at h <;> cases h
    | true =>
      rw [h1, cond_true] at h
      have hl : rnU (tLe T) b - b ≤ 8 := by
        split at h
        · cases h
        · omega
      have hE : tE T b = rnU (tLe T) b := by unfold tE; rw [h0, h1]; rfl
      have hge := rnU_ge (tLe T) b
      have hL : tL T b = rnU (tLe T) b - b := by unfold tL; rw [hE]
      refine ⟨tLe_lt h1, by omega, fun i hi => ?_, by omega⟩
      have h3 : tLe T (b + i) = true := rnU_in (Nat.le_add_right _ _) (by omega)
      unfold tLe at h3
      simp only [Bool.and_eq_true, decide_eq_true_eq] at h3
      exact h3.2
section CR1
variable (E : EV) (d : Nat) {T : TT} {B : Me}
theorem c_byteAt {f : Nat → Int32} (hT : CTp T B) (k : Nat) (hk : k < T.2) : Mt E d m_Tape_byteAt [vP 1 0, vI (nI k)] (mC B f) (RP (vI (nI (T.1 k))) (mC B f)) := by
  obtain ⟨t1, ⟨c, c1, c2, c3, c4⟩, t3⟩ := hT
  refine Mt.go ok_Tape_byteAt [] 60 rfl ?_
  refine cLt (by omega) (by omega) (fun q => absurd q (by omega)) (fun _ => ?_)
  refine qLe c1 rfl (by omega) (by omega) (fun q => absurd q (by omega)) (fun _ => ?_)
  refine ix k (show _ < 700 by omega) rfl ?_
  refine And.intro ?_ rfl
  show some (vI (B.1 2 0 k &&& nI 255)) = _
  rw [c4 k (by omega)]
theorem c_kindOf (M : Me) (b : Nat) (hb : b < 256) : Mt E d m_Reader_kindOf [vI (nI b)] M (RP (vI (nI (kOf b))) M) := by
  refine Mt.go ok_Reader_kindOf [14, 28] 60 rfl ?_
  have f28 : ¬ (97 ≤ b ∧ b ≤ 122) → ¬ (48 ≤ b ∧ b ≤ 57) → Wp E d m_Reader_kindOf 28 [some (vI (nI b))] [] M (RP (vI (nI (kOf b))) M) := by
    intro n1 n2
    refine go ok_Reader_kindOf [] 60 ?_
    refine cEq (by omega) (by omega) (fun q => ?_) (fun q => ?_)
    · refine And.intro ?_ rfl
      unfold kOf; rw [if_neg n1, if_neg n2, if_pos (Or.inl q)]
    · refine cNe (by omega) (by omega) (fun q2 => ?_) (fun q2 => ?_)
      · refine And.intro ?_ rfl
        unfold kOf; rw [if_neg n1, if_neg n2, if_neg (by omega)]
      · refine And.intro ?_ rfl
        unfold kOf; rw [if_neg n1, if_neg n2, if_pos (Or.inr q2)]
  have f14 : ¬ (97 ≤ b ∧ b ≤ 122) → Wp E d m_Reader_kindOf 14 [some (vI (nI b))] [] M (RP (vI (nI (kOf b))) M) := by
    intro n1
    refine go ok_Reader_kindOf [28] 60 ?_
    refine cLt (by omega) (by omega) (fun q => ?_) (fun q => ?_)
    · exact f28 n1 (by omega)
    · refine cLt (by omega) (by omega) (fun q2 => ?_) (fun q2 => ?_)
      · exact f28 n1 (by omega)
      · refine And.intro ?_ rfl
        unfold kOf; rw [if_neg n1, if_pos ⟨q, q2⟩]
  refine cLt (by omega) (by omega) (fun q => ?_) (fun q => ?_)
  · exact f14 (by omega)
  · refine cLt (by omega) (by omega) (fun q2 => ?_) (fun q2 => ?_)
    · exact f14 (by omega)
    · refine And.intro ?_ rfl
      unfold kOf; rw [if_pos ⟨q, q2⟩]
theorem c_nextToken0 {f : Nat → Int32} (hT : CTp T B) (a : Nat) (h1 : f 1 = nI T.2) (h7 : f 7 = nI 0) (ha : a ≤ T.2) (h2 : f 2 = nI a) : Mt E (d + 1) m_Reader_nextToken [vP 3 0] (mC B f) (fun r M' => r = none ∧ CMe T B (.inr (tB T a)) M') := by
  have t1 := hT.1
  have t3 := hT.2.2
  generalize hb : tB T a = b
  generalize hQ : (fun r M' => r = none ∧ CMe T B (.inr b) M' : Option AV → Me → Prop) = Q
  -- the end of a token
  have w217 : ∀ f e κ, f 1 = nI T.2 → f 7 = nI 0 → b < e → e ≤ T.2 → f 2 = nI e → f 4 = nI b → f 3 = nI κ → e = tE T b → κ ≤ 4 → ck (tK T b) = (if (κ = 1 ∧ 8 < e - b) ∨ (κ = 2 ∧ 3 < e - b) then 4 else κ) → (tK T b = 3 → f 6 = nI (tN3 T b)) → (tK T b = 4 → f 6 = nI (T.1 b)) → ∀ l1 l2, Wp E (d + 1) m_Reader_nextToken 217 [some (vP 3 0), some (vI l1), some (vI l2)] [] (mC B f) Q := by
    intro f e κ h1 h7 hbe he h2 h4 h3 hE hκ hk h6 h6' l1 l2
    have el : (mC B f).1 3 0 2 - (mC B f).1 3 0 4 = nI (e - b) := by
      show f 2 - f 4 = _
      rw [h2, h4, pk_sub (by omega)]
    have eL : tL T b = e - b := by unfold tL; rw [← hE]
    have end1 : ck (tK T b) = κ → Q none (mC B (fU f 5 (nI (e - b)))) := by
      intro hk
      rw [← hQ]
      exact ⟨rfl, _, rfl, h1, by omega, by show f 2 = _; rw [h2, hE], by show f 3 = _; rw [h3, hk], h4, by rw [eL]; rfl, h6, h6', h7⟩
    have end2 : ck (tK T b) = 4 → Q none (mC B (fU (fU f 5 (nI (e - b))) 3 (nI 4))) := by
      intro hk
      rw [← hQ]
      exact ⟨rfl, _, rfl, h1, by omega, by show f 2 = _; rw [h2, hE], by rw [hk]; rfl, h4, by rw [eL]; rfl, h6, h6', h7⟩
    refine go ok_Reader_nextToken [230] 60 ?_
    have w230 : Wp E (d + 1) m_Reader_nextToken 230 [some (vP 3 0), some (vI l1), some (vI l2)] [] (mC B (fU f 5 (nI (e - b)))) Q := by
      have h3' : (mC B (fU f 5 (nI (e - b)))).1 3 0 3 = nI κ := h3
      have h5' : (mC B (fU f 5 (nI (e - b)))).1 3 0 5 = nI (e - b) := rfl
      have w263 : ck (tK T b) = 4 → Wp E (d + 1) m_Reader_nextToken 263 [some (vP 3 0), some (vI l1), some (vI l2)] [] (mC B (fU f 5 (nI (e - b)))) Q := by
        intro hk4
        refine go ok_Reader_nextToken [] 60 ?_
        have := end2 hk4
        rw [← mC_sI (by omega) (by omega)] at this
        exact this
      have w247 : ¬ (κ = 1 ∧ 8 < e - b) → Wp E (d + 1) m_Reader_nextToken 247 [some (vP 3 0), some (vI l1), some (vI l2)] [] (mC B (fU f 5 (nI (e - b)))) Q := by
        intro hn
        refine go ok_Reader_nextToken [263] 60 ?_
        refine qNe h3' rfl (by omega) (by omega) (fun q => ?_) (fun q => ?_)
        · exact end1 (by rw [hk, if_neg (by omega)])
        · refine qLe h5' rfl (by omega) (by omega) (fun q2 => ?_) (fun q2 => ?_)
          · exact end1 (by rw [hk, if_neg (by omega)])
          · exact w263 (by rw [hk, if_pos (by omega)])
      refine go ok_Reader_nextToken [247, 263] 60 ?_
      refine qNe h3' rfl (by omega) (by omega) (fun q => ?_) (fun q => ?_)
      · exact w247 (by omega)
      · refine qLt rfl h5' (by omega) (by omega) (fun q2 => ?_) (fun q2 => ?_)
        · exact w263 (by rw [hk, if_pos (by omega)])
        · exact w247 (by omega)
    rw [← mC_sI (by omega) (by omega), ← el] at w230
    exact w230
  -- letters or digits run on
  have w142 : ∀ (p : Nat → Bool) (κ : Nat), κ = 1 ∨ κ = 2 → (∀ k, k < T.2 → p k = decide (kOf (T.1 k) = κ)) → (∀ k, p k = true → k < T.2) → b < T.2 → tE T b = rnU p b → ck (tK T b) = (if (κ = 1 ∧ 8 < rnU p b - b) ∨ (κ = 2 ∧ 3 < rnU p b - b) then 4 else κ) → (tK T b = 3 → κ = 2) → tK T b ≠ 4 → ∀ a, a ≤ T.2 → b < a → rnU p a = rnU p b → ∀ f, f 1 = nI T.2 → f 7 = nI 0 → f 2 = nI a → f 4 = nI b → f 3 = nI κ → (κ = 2 → f 6 = nI (dgV (fun i => T.1 (b + i)) (a - b))) → ∀ l1, Wp E (d + 1) m_Reader_nextToken 142 [some (vP 3 0), some (vI l1), some (vI (nI 1))] [] (mC B f) Q := by
    intro p κ hκ hp hpl hbl hE hk hk3 hk4
    have out : ∀ a, a ≤ T.2 → b < a → rnU p a = rnU p b → p a = false → ∀ f, f 1 = nI T.2 → f 7 = nI 0 → f 2 = nI a → f 4 = nI b → f 3 = nI κ → (κ = 2 → f 6 = nI (dgV (fun i => T.1 (b + i)) (a - b))) → ∀ l1, Wp E (d + 1) m_Reader_nextToken 217 [some (vP 3 0), some (vI l1), some (vI (nI 1))] [] (mC B f) Q := by
      intro a ha hba hr hpa f h1 h7 h2 h4 h3 h6 l1
      have hra : rnU p b = a := by rw [← hr]; exact rnU_f hpa
      refine w217 f a κ h1 h7 hba ha h2 h4 h3 (by rw [hE, hra]) (by omega) (by rw [hk, hra]) (fun q => ?_) (fun q => absurd q hk4) l1 _
      rw [h6 (hk3 q)]
      unfold tN3 tL
      rw [hE, hra]
    refine loopUp T.2 ?_ ?_
    · intro hba hr f h1 h7 h2 h4 h3 h6 l1
      have hpf : p T.2 = false := by
        cases h : p T.2 with
        | false => rfl
        | true => exact absurd (hpl _ h) (Nat.lt_irrefl _)
      refine go ok_Reader_nextToken [217] 60 ?_
      refine And.intro (fun e => absurd e (by decide)) (fun _ => ?_)
      refine qLe h1 h2 (by omega) (by omega) (fun _ => ?_) (fun q => absurd q (by omega))
      exact out T.2 (Nat.le_refl _) hba hr hpf f h1 h7 h2 h4 h3 h6 l1
    · intro a hlt ih hba hr f h1 h7 h2 h4 h3 h6 l1
      have hkb := kOf_b (T.1 a)
      have hB := t3 a
      refine go ok_Reader_nextToken [142, 217] 60 ?_
      refine And.intro (fun e => absurd e (by decide)) (fun _ => ?_)
      refine qLe h1 h2 (by omega) (by omega) (fun q => absurd q (by omega)) (fun _ => ?_)
      have hx := c_byteAt E d (f := f) hT a hlt
      rw [← h2] at hx
      refine xq d ok_Tape_byteAt hx (by omega) ?_
      refine xq d ok_Reader_kindOf (c_kindOf E d _ (T.1 a) hB) (by omega) ?_
      refine qNe rfl h3 (by omega) (by omega) (fun q => ?_) (fun q => ?_)
      · exact out a (by omega) hba hr (by rw [hp a hlt, decide_eq_false q]) f h1 h7 h2 h4 h3 h6 l1
      · have hpa : p a = true := by rw [hp a hlt, decide_eq_true q]
        refine xq d ok_Tape_byteAt hx (by omega) ?_
        have hr2 : rnU p (a + 1) = rnU p b := by rw [← hr]; exact (rnU_t hpa (by omega)).symm
        have := ih (by omega) hr2 (fU (fU f 6 (f 6 * nI 10 + nI (T.1 a) - nI 48)) 2 (f 2 + nI 1)) h1 h7 (by show f 2 + nI 1 = _; rw [h2, nI_add]) h4 h3 (fun e => by
          show f 6 * nI 10 + nI (T.1 a) - nI 48 = _
          have h48 : 48 ≤ T.1 a := by
            rw [e] at q
            unfold kOf at q
            split at q
            · omega
            · split at q
              · omega
              · split at q <;> omega
          rw [h6 e, dg_st h48, show a + 1 - b = (a - b) + 1 by omega, dgV, show b + (a - b) = a by omega]) l1
        rw [← mC_sI (by omega) (by omega), ← mC_sI (by omega) (by omega)] at this
        exact this
  have w40 : ∀ f, f 1 = nI T.2 → f 7 = nI 0 → b ≤ T.2 → f 2 = nI b → Wp E (d + 1) m_Reader_nextToken 40 [some (vP 3 0), none, none] [] (mC B f) Q := by
    intro f h1 h7 hbl h2
    have w53 : ∀ f, f 1 = nI T.2 → f 7 = nI 0 → f 2 = nI b → f 4 = nI b → f 5 = nI 0 → Wp E (d + 1) m_Reader_nextToken 53 [some (vP 3 0), none, none] [] (mC B f) Q := by
      intro f h1 h7 h2 h4 h5
      refine go ok_Reader_nextToken [107] 60 ?_
      refine qLt h2 h1 (by omega) (by omega) (fun q => ?_) (fun q => ?_)
      · have hx := c_byteAt E d (f := f) hT b q
        rw [← h2] at hx
        have hB := t3 b
        have hkb := kOf_b (T.1 b)
        have hnb : decide (b = T.2) = false := decide_eq_false (by omega)
        refine xq d ok_Tape_byteAt hx (by omega) ?_
        refine xq d ok_Reader_kindOf (c_kindOf E d _ (T.1 b) hB) (by omega) ?_
        -- the kind is told
        have w107 : ∀ f v, f 1 = nI T.2 → f 7 = nI 0 → f 2 = nI b → f 4 = nI b → f 3 = nI (kOf (T.1 b)) → (kOf (T.1 b) = 2 → v = nI (T.1 b - 48)) → (kOf (T.1 b) ≠ 2 → v = nI (T.1 b)) → Wp E (d + 1) m_Reader_nextToken 107 [some (vP 3 0), some (vI (nI (T.1 b))), none] [vI v, vP 3 0] (mC B f) Q := by
          intro f v h1 h7 h2 h4 h3 hv hv'
          -- with the number laid in and the place one further
          have w120 : ∀ f, f 1 = nI T.2 → f 7 = nI 0 → f 2 = nI (b + 1) → f 4 = nI b → f 3 = nI (kOf (T.1 b)) → f 6 = v → Wp E (d + 1) m_Reader_nextToken 120 [some (vP 3 0), some (vI (nI (T.1 b))), none] [] (mC B f) Q := by
            intro f h1 h7 h2 h4 h3 h6
            have h3' : (mC B f).1 3 0 3 = nI (kOf (T.1 b)) := h3
            refine go ok_Reader_nextToken [142] 60 ?_
            refine qEq h3' rfl (by omega) (by omega) (fun k1 => ?_) (fun k1 => ?_)
            · have hl : tLe T b = true := by rw [tLe_k q, decide_eq_true k1]
              have hE : tE T b = rnU (tLe T) b := by unfold tE; rw [hnb, hl]; rfl
              have hK : tK T b = if 8 < rnU (tLe T) b - b then 0 else 2 := by unfold tK; rw [hnb, hl]; rfl
              refine w142 (tLe T) 1 (Or.inl rfl) (fun k hk => tLe_k hk) (fun k hk => tLe_lt hk) q hE ?_ (fun e => ?_) ?_ (b + 1) (by omega) (by omega) ?_ f h1 h7 h2 h4 (by rw [h3, k1]) (fun e => by omega) _
              · rw [hK]
                by_cases c : 8 < rnU (tLe T) b - b
                · rw [if_pos c, if_pos (Or.inl ⟨rfl, c⟩)]; rfl
                · rw [if_neg c, if_neg (by omega)]; rfl
              · rw [hK] at e; split at e <;> omega
              · rw [hK]; split <;> omega
              · exact (rnU_t hl (by omega)).symm
            · refine qNe h3' rfl (by omega) (by omega) (fun k2 => ?_) (fun k2 => ?_)
              · -- a sign, or no token
                refine go ok_Reader_nextToken [217] 60 ?_
                refine And.intro (fun _ => ?_) (fun e => absurd rfl e)
                have hl : tLe T b = false := by rw [tLe_k q, decide_eq_false k1]
                have hd : tDi T b = false := by rw [tDi_k q, decide_eq_false k2]
                have hE : tE T b = b + 1 := by unfold tE; rw [hnb, hl, hd]; rfl
                have hK : tK T b = bif (decide (T.1 b = 59) || decide (T.1 b = 44)) then 4 else 0 := by unfold tK; rw [hnb, hl, hd]; rfl
                have hkk : kOf (T.1 b) = if T.1 b = 59 ∨ T.1 b = 44 then 3 else 4 := by
                  unfold kOf at k1 k2 ⊢
                  by_cases c1 : 97 ≤ T.1 b ∧ T.1 b ≤ 122
                  · rw [if_pos c1] at k1; omega
                  · rw [if_neg c1] at k1 k2 ⊢
                    by_cases c2 : 48 ≤ T.1 b ∧ T.1 b ≤ 57
                    · rw [if_pos c2] at k2; omega
                    · rw [if_neg c2]
                refine w217 f (b + 1) (kOf (T.1 b)) h1 h7 (by omega) (by omega) h2 h4 h3 hE.symm (by omega) ?_ (fun e => ?_) (fun _ => by rw [h6]; exact hv' k2) _ _
                · rw [if_neg (by omega), hkk, hK]
                  by_cases c : T.1 b = 59 ∨ T.1 b = 44
                  · rw [if_pos c]
                    have : (decide (T.1 b = 59) || decide (T.1 b = 44)) = true := by simpa using c
                    rw [this]; rfl
                  · rw [if_neg c]
                    have : (decide (T.1 b = 59) || decide (T.1 b = 44)) = false := by simpa using c
                    rw [this]; rfl
                · rw [hK] at e
                  cases hc : (decide (T.1 b = 59) || decide (T.1 b = 44)) <;> rw [hc] at e <;> cases e
              · have hl : tLe T b = false := by rw [tLe_k q, decide_eq_false k1]
                have hd : tDi T b = true := by rw [tDi_k q, decide_eq_true k2]
                have hE : tE T b = rnU (tDi T) b := by unfold tE; rw [hnb, hl, hd]; rfl
                have hK : tK T b = if 3 < rnU (tDi T) b - b then 0 else 3 := by unfold tK; rw [hnb, hl, hd]; rfl
                refine w142 (tDi T) 2 (Or.inr rfl) (fun k hk => tDi_k hk) (fun k hk => tDi_lt hk) q hE ?_ (fun _ => rfl) ?_ (b + 1) (by omega) (by omega) ?_ f h1 h7 h2 h4 (by rw [h3, k2]) (fun _ => ?_) _
                · rw [hK]
                  by_cases c : 3 < rnU (tDi T) b - b
                  · rw [if_pos c, if_pos (Or.inr ⟨rfl, c⟩)]; rfl
                  · rw [if_neg c, if_neg (by omega)]; rfl
                · rw [hK]; split <;> omega
                · exact (rnU_t hd (by omega)).symm
                · rw [h6, hv k2, show b + 1 - b = 0 + 1 by omega, dgV, dgV]
                  congr 1
                  show T.1 b - 48 = 10 * 0 + (T.1 (b + 0) - 48)
                  rw [Nat.add_zero]; omega
          refine go ok_Reader_nextToken [120] 60 ?_
          have := w120 (fU (fU f 6 v) 2 (f 2 + nI 1)) h1 h7 (by show f 2 + nI 1 = _; rw [h2, nI_add]) h4 h3 rfl
          rw [← mC_sI (by omega) (by omega), ← mC_sI (by omega) (by omega)] at this
          exact this
        have h3n : (sI (mC B f) 3 0 3 (nI (kOf (T.1 b)))).1 3 0 3 = nI (kOf (T.1 b)) := by rw [sI_at, if_pos ⟨rfl, rfl, rfl⟩]
        refine qNe h3n rfl (by omega) (by omega) (fun k2 => ?_) (fun k2 => ?_)
        · have := w107 (fU f 3 (nI (kOf (T.1 b)))) (nI (T.1 b)) h1 h7 h2 h4 rfl (fun e => absurd e k2) (fun _ => rfl)
          rw [← mC_sI (by omega) (by omega)] at this
          exact this
        · have h48 : 48 ≤ T.1 b := by
            unfold kOf at k2
            split at k2
            · omega
            · split at k2
              · omega
              · split at k2 <;> omega
          have := w107 (fU f 3 (nI (kOf (T.1 b)))) (nI (T.1 b) - nI 48) h1 h7 h2 h4 rfl (fun _ => pk_sub h48) (fun e => absurd k2 e)
          rw [← mC_sI (by omega) (by omega)] at this
          exact this
      · have hbe : b = T.2 := by omega
        have hd0 : decide (b = T.2) = true := decide_eq_true hbe
        have hK : tK T b = 1 := by unfold tK; rw [hd0]; rfl
        have hE : tE T b = b := by unfold tE; rw [hd0]; rfl
        rw [← hQ]
        refine And.intro rfl ⟨fU f 3 (nI 0), ?_, h1, hbl, by show f 2 = _; rw [h2, hE], by rw [hK]; rfl, h4, by show f 5 = _; rw [h5]; unfold tL; rw [hE, Nat.sub_self], fun e => absurd (hK.symm.trans e) (by decide), fun e => absurd (hK.symm.trans e) (by decide), h7⟩
        rw [← mC_sI (by omega) (by omega)]
    refine go ok_Reader_nextToken [53] 60 ?_
    have := w53 (fU (fU f 4 (f 2)) 5 (nI 0)) h1 h7 h2 h2 rfl
    rw [← mC_sI (by omega) (by omega), ← mC_sI (by omega) (by omega)] at this
    exact this
  have w0 : ∀ a, a ≤ T.2 → tB T a = b → ∀ f, f 1 = nI T.2 → f 7 = nI 0 → f 2 = nI a → Wp E (d + 1) m_Reader_nextToken 0 [some (vP 3 0), none, none] [] (mC B f) Q := by
    refine loopUp T.2 ?_ ?_
    · intro hb f h1 h7 h2
      have : tSp T T.2 = false := by
        cases hc : tSp T T.2 with
        | false => rfl
        | true => exact absurd (tSp_lt hc) (Nat.lt_irrefl _)
      have e : b = T.2 := by rw [← hb]; exact rnU_f this
      refine go ok_Reader_nextToken [40] 60 ?_
      refine qLe h1 h2 (by omega) (by omega) (fun _ => ?_) (fun q => absurd q (by omega))
      exact w40 f h1 h7 (by omega) (by rw [h2, e])
    · intro a hlt ih hb f h1 h7 h2
      have hB := t3 a
      refine go ok_Reader_nextToken [40, 0] 60 ?_
      refine qLe h1 h2 (by omega) (by omega) (fun q => absurd q (by omega)) (fun _ => ?_)
      have hx := c_byteAt E d (f := f) hT a hlt
      rw [← h2] at hx
      refine xq d ok_Tape_byteAt hx (by omega) ?_
      refine cNe (by omega) (by omega) (fun q => ?_) (fun q => ?_)
      · have : tSp T a = false := by unfold tSp; rw [decide_eq_false q, Bool.and_false]
        have e : b = a := by rw [← hb]; exact rnU_f this
        exact w40 f h1 h7 (by omega) (by rw [h2, e])
      · have : tSp T a = true := by unfold tSp; rw [decide_eq_true q, decide_eq_true hlt]; rfl
        have := ih (by rw [← hb]; exact (rnU_t this (by omega)).symm) (fU f 2 (f 2 + nI 1)) h1 h7 (by show f 2 + nI 1 = _; rw [h2, nI_add])
        rw [← mC_sI (by omega) (by omega)] at this
        exact this
  exact Mt.of ok_Reader_nextToken rfl (w0 a ha hb f h1 h7 h2)
theorem c_nextToken {f : Nat → Int32} {b : Nat} (hT : CTp T B) (h : CT T f (.inr b)) : Mt E (d + 1) m_Reader_nextToken [vP 3 0] (mC B f) (fun r M' => r = none ∧ CMe T B (.inr (tX T b)) M') := c_nextToken0 E d hT (tE T b) h.1 h.2.2.2.2.2.2.2.2 (tE_le h.2.1) h.2.2.1
end CR1
