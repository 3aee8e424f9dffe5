/-! the reference: fewest moves -/
def mvC (S : Nat → Bool) (o r : Nat → Nat) : Nat → Nat
  | 0 => 0
  | t + 1 => mvC S o r t + bif S t && !decide (r t = o t) then 1 else 0
theorem mvC_le (S : Nat → Bool) (o r : Nat → Nat) : ∀ n, mvC S o r n ≤ n
  | 0 => Nat.le_refl 0
  | n + 1 => by
    have := mvC_le S o r n
    rw [mvC]
    cases (S n && !decide (r n = o n)) <;> simp only [cond_true, cond_false] <;> omega
theorem mvC_mono (S : Nat → Bool) (o r : Nat → Nat) (s : Nat) : ∀ k, mvC S o r s ≤ mvC S o r (s + k)
  | 0 => Nat.le_refl _
  | k + 1 => by
    have := mvC_mono S o r s k
    rw [← Nat.add_assoc, mvC]
    omega
theorem mvC_cg {S : Nat → Bool} {o r r' : Nat → Nat} : ∀ (n : Nat), (∀ t, t < n → S t = true → r t = r' t) → mvC S o r n = mvC S o r' n
  | 0, _ => rfl
  | n + 1, h => by
    rw [mvC, mvC, mvC_cg n (fun t ht => h t (by omega))]
    cases hS : S n
    · rfl
    · rw [h n (by omega) hS]
def lst (c : (Nat → Nat) → Nat) : Option (Nat → Nat) → Nat
  | none => 9
  | some r => c r
def sqF (c : (Nat → Nat) → Nat) : Option (Nat → Nat) → List (Nat → Nat) → Option (Nat → Nat)
  | b, [] => b
  | b, r :: X => sqF c (bif decide (c r < lst c b) then some r else b) X
theorem sqF_app {c : (Nat → Nat) → Nat} : ∀ (X Y : List (Nat → Nat)) (b : Option (Nat → Nat)), sqF c b (X ++ Y) = sqF c (sqF c b X) Y
  | [], _, _ => rfl
  | r :: X, Y, b => by rw [List.cons_append, sqF, sqF, sqF_app X Y]
theorem sqF_ge {c : (Nat → Nat) → Nat} : ∀ (X : List (Nat → Nat)) (b : Option (Nat → Nat)), (∀ r, r ∈ X → lst c b ≤ c r) → sqF c b X = b
  | [], _, _ => rfl
  | r :: X, b, h => by
    rw [sqF, decide_eq_false (Nat.not_lt.mpr (h r List.mem_cons_self)), cond_false]
    exact sqF_ge X b (fun q hq => h q (List.mem_cons_of_mem _ hq))
def scr4 (i k : Nat) : Bool := Nat.beq i 70 || (Nat.beq i 74 || (Nat.beq i 60 && Nat.beq k 41))
def Ag4 (M M' : Me) : Prop := (∀ i r k, scr4 i k = false → M'.1 i r k = M.1 i r k) ∧ M'.2 = M.2
theorem Ag4.rf (M : Me) : Ag4 M M := ⟨fun _ _ _ _ => rfl, rfl⟩
theorem Ag4.tr {M M' M'' : Me} (h : Ag4 M M') (h' : Ag4 M' M'') : Ag4 M M'' := ⟨fun i r k e => (h'.1 i r k e).trans (h.1 i r k e), h'.2.trans h.2⟩
theorem ag4_sI {M : Me} {i r k : Nat} {x : Int32} (h : scr4 i k = true) : Ag4 M (sI M i r k x) := ⟨fun a b c e => up3_ne (fun z => by obtain ⟨rfl, rfl, rfl⟩ := z; rw [h] at e; cases e), rfl⟩
theorem scr4_R {i k : Nat} (h : scrR i k = false) : scr4 i k = false := by
  cases e : scr4 i k with
  | false => rfl
  | true =>
    unfold scr4 at e
    simp only [Bool.or_eq_true, Bool.and_eq_true, Nat.beq_eq] at e
    rcases e with rfl | rfl | ⟨rfl, rfl⟩
    · have h2 : scrR 70 k = true := rfl
      rw [h2] at h; cases h
    · have h2 : scrR 74 k = true := rfl
      rw [h2] at h; cases h
    · have h2 : scrR 60 41 = true := rfl
      rw [h2] at h; cases h
theorem Ag4.R {M M' : Me} (h : Ag4 M M') : AgR M M' := ⟨fun i r k e => h.1 i r k (scr4_R e), h.2⟩
def cq (S : Nat → Bool) (o : Nat → Nat) (n : Nat) (r : Nat → Nat) : Nat := mvC S o r n
def bq (S : Nat → Bool) (o r : Nat → Nat) (t : Nat) : Nat := bif S t then r t else o t
def SQ (S : Nat → Bool) (o : Nat → Nat) (n : Nat) (M : Me) (b : Option (Nat → Nat)) : Prop := M.1 60 0 41 = nI (lst (cq S o n) b) ∧ ∀ r, b = some r → ∀ t, t < n → M.1 74 0 t = nI (bq S o r t)
theorem lst_le {S : Nat → Bool} {o : Nat → Nat} {n : Nat} (hn : n ≤ 8) (b : Option (Nat → Nat)) : lst (cq S o n) b ≤ 9 := by
  cases b with
  | none => exact Nat.le_refl 9
  | some r =>
    have : mvC S o r n ≤ n := mvC_le S o r n
    show mvC S o r n ≤ 9
    omega
theorem cq_res {S : Nat → Bool} {o r : Nat → Nat} {n : Nat} : cq S o n (res S n r) = mvC S o r n := by
  unfold cq
  refine mvC_cg n (fun t ht hS => ?_)
  unfold res
  rw [hS, decide_eq_true ht]; rfl
theorem exr_cost {S : Nat → Bool} {L : Nat → Nat → Bool} {D : Nat → Nat → Nat → Nat → Bool} {o : Nat → Nat} {m n k s : Nat} {ρ : Nat → Nat} (hn : s + k = n) : ∀ r, r ∈ exr S L D m n k s ρ → mvC S o ρ s ≤ cq S o n r := by
  intro r hr
  unfold exr at hr
  obtain ⟨q, hq, rfl⟩ := List.mem_map.mp hr
  rw [cq_res, ← hn]
  have h1 := mvC_mono S o q s k
  have h2 : mvC S o q s = mvC S o ρ s := mvC_cg s (fun t ht _ => (ext_mem k s ρ q hq).1 t ht)
  omega
def aSq (M : Me) (m : Nat) : Option (Nat → Nat) := sqF (cq (bt (M.1 65 0 24)) (oN M) (sN M)) none (aX M (M.1 65 0 24) m)
theorem aSq_ag {M M' : Me} (h : AgR M M') (m : Nat) : aSq M' m = aSq M m := by unfold aSq; rw [aX_ag h, agO h, agS h, ag65 h]
section R15
variable (E : EV) (d : Nat)
theorem r_squeezes (K : Me) (hR : RW K) (m : Nat) (hm : m ≤ 10) (S : Nat → Bool) (hS : bt (K.1 65 0 24) = S) (L : Nat → Nat → Bool) (hL : aLst K = L) (D : Nat → Nat → Nat → Nat → Bool) (hD : aDist K = D) (o : Nat → Nat) (hO : oN K = o) (n : Nat) (hN : sN K = n) : ∀ (k s : Nat) (M : Me) (b : Option (Nat → Nat)) (ρ : Nat → Nat) (mv : Nat), s + k = n → AgR K M → RR M ρ → SQ S o n M b → mv = mvC S o ρ s → (∀ t, t < s → S t = false → ρ t = o t) → Mt E (d + 4 + k) m_Mo_squeezes [vP 60 0, vI (nI m), vI (nI s), vI (nI mv)] M (fun r M' => r = none ∧ Ag4 M M' ∧ SQ S o n M' (sqF (cq S o n) b (exr S L D m n k s ρ)) ∧ ∃ ρ', RR M' ρ' ∧ ∀ t, t < s → ρ' t = ρ t) := by
  obtain ⟨⟨hc, hc'⟩, ⟨hn, hn'⟩, ⟨hb, hb'⟩, ho⟩ := id hR
  rw [hN] at hn hn'
  have ho2 : ∀ s, s < n → K.1 65 0 s = nI (o s) ∧ 1 ≤ o s ∧ o s ≤ 10 := fun s hs => by rw [← hO]; exact ho s (by omega)
  intro k
  induction k with
  | zero =>
    intro s M b ρ mv hsk hag hr hsq hmv hoff
    have hs : s = n := by omega
    have hmn := mvC_le S o ρ s
    have hle := lst_le (S := S) (o := o) hn' b
    have hX : exr S L D m n 0 s ρ = [res S n ρ] := by unfold exr; rw [ext]; rfl
    rw [hX]
    have hco : cq S o n (res S n ρ) = mv := by rw [cq_res, hmv, hs]
    refine Mt.go ok_Mo_squeezes [25] 60 rfl ?_
    refine qLt rfl hsq.1 (by omega) (by omega) (fun hlt => ?_) (fun hge => ?_)
    · refine qNe rfl ((hag.1 60 0 18 rfl).trans hn) (by omega) (by omega) (fun q => absurd hs q) (fun _ => ?_)
      have key : ∀ t, t ≤ n → ∀ N, N = setR (sI M 60 0 41 (nI mv)) 74 0 0 t (M.1 70 0) → Wp E (d + 4 + 0) m_Mo_squeezes 25 [some (vP 60 0), some (vI (nI m)), some (vI (nI s)), some (vI (nI mv)), some (vI (nI t))] [] N (fun r M' => r = none ∧ Ag4 M M' ∧ SQ S o n M' (sqF (cq S o n) b [res S n ρ]) ∧ ∃ ρ', RR M' ρ' ∧ ∀ t, t < s → ρ' t = ρ t) := by
        refine loopUp n ?_ ?_
        · rintro N rfl
          refine go ok_Mo_squeezes [25] 60 ?_
          refine qLe ((hag.1 60 0 18 rfl).trans hn) rfl (by omega) (by omega) (fun _ => ?_) (fun q => absurd q (by omega))
          refine And.intro rfl ⟨⟨fun i r j e => ?_, rfl⟩, ⟨?_, fun r hr2 t ht => ?_⟩, ρ, fun t ht => hr t ht, fun _ _ => rfl⟩
          · rw [setR_out (fun z => by obtain ⟨rfl, rfl, z3, z4⟩ := z; cases e)]
            exact up3_ne (fun z => by obtain ⟨rfl, rfl, rfl⟩ := z; cases e)
          · rw [sqF, hco, decide_eq_true hlt, cond_true, sqF]
            show nI mv = nI (cq S o n (res S n ρ))
            rw [hco]
          · rw [sqF, hco, decide_eq_true hlt, cond_true, sqF] at hr2
            cases hr2
            have := setR_at (M := sI M 60 0 41 (nI mv)) (i := 74) (r := 0) (lo := 0) (n := n) (f := M.1 70 0) (k := t) ht
            rw [Nat.zero_add] at this
            rw [this, (hr t (by omega)).1]
            unfold bq res
            cases hSt : S t
            · rw [cond_false, hoff t (by omega) hSt]
            · rw [cond_true, decide_eq_true ht]; rfl
        · rintro t hlt2 ih N rfl
          refine go ok_Mo_squeezes [25] 60 ?_
          refine qLe ((hag.1 60 0 18 rfl).trans hn) rfl (by omega) (by omega) (fun q => absurd q (by omega)) (fun _ => ?_)
          refine ix t (show _ < 8 by omega) rfl ?_
          refine ix t (show _ < 8 by omega) rfl ?_
          refine nm_r (nI_add _ _) (ih _ ?_)
          rw [← setR_step, Nat.zero_add]; rfl
      exact key 0 (Nat.zero_le _) _ (setR_0 _ _ _ _ _).symm
    · refine And.intro rfl ⟨Ag4.rf M, ?_, ρ, hr, fun _ _ => rfl⟩
      rw [sqF, hco, decide_eq_false (by omega), cond_false, sqF]
      exact hsq
  | succ k ih =>
    intro s M b ρ mv hsk hag hr hsq hmv hoff
    have hs : s < n := by omega
    have hmn := mvC_le S o ρ s
    have hle := lst_le (S := S) (o := o) hn' b
    generalize hX : exr S L D m n (k + 1) s ρ = X
    obtain ⟨ho3, ho4, ho5⟩ := ho2 s hs
    refine Mt.go ok_Mo_squeezes [90] 60 rfl ?_
    refine qLt rfl hsq.1 (by omega) (by omega) (fun hlt => ?_) (fun hge => ?_)
    · refine qNe rfl ((hag.1 60 0 18 rfl).trans hn) (by omega) (by omega) (fun _ => ?_) (fun q => absurd q (by omega))
      refine xq (d + 1) ok_Mo_isOn (r_isOn E d M s (by omega)) (by omega) ?_
      have hon : aOn M s = S s := by rw [agOn hag]; unfold aOn; rw [hS]
      rw [hon]
      refine brN (fun hSs => ?_) (fun hSs => ?_)
      · generalize hg : (fun c => bif okC S L D s (c + 1) ρ then exr S L D m n k (s + 1) (upN ρ s (c + 1)) else []) = g
        have hXg : X = (List.range m).flatMap g := by rw [← hX, exr_in hSs, hg]
        have key : ∀ c, c ≤ m → ∀ N, Ag4 M N → SQ S o n N (sqF (cq S o n) b ((List.range c).flatMap g)) → (∃ ρ', RR N ρ' ∧ ∀ t, t < s → ρ' t = ρ t) → Wp E (d + 4 + (k + 1)) m_Mo_squeezes 90 [some (vP 60 0), some (vI (nI m)), some (vI (nI s)), some (vI (nI mv)), some (vI (nI (c + 1)))] [] N (fun r M' => r = none ∧ Ag4 M M' ∧ SQ S o n M' (sqF (cq S o n) b X) ∧ ∃ ρ', RR M' ρ' ∧ ∀ t, t < s → ρ' t = ρ t) := by
          refine loopUp m ?_ ?_
          · intro N a1 a2 a3
            refine go ok_Mo_squeezes [90] 60 ?_
            refine cLt (by omega) (by omega) (fun _ => ?_) (fun q => absurd q (by omega))
            refine And.intro rfl ⟨a1, ?_, a3⟩
            rw [hXg]; exact a2
          · rintro c hlt2 ihc N a1 a2 ⟨ρN, a3, a3'⟩
            have aR := hag.tr a1.R
            have esucc : (List.range (c + 1)).flatMap g = (List.range c).flatMap g ++ g c := by
              rw [List.range_succ, List.flatMap_append, List.flatMap_singleton]
            have eair : N.1 65 0 24 = K.1 65 0 24 := by rw [ag65 aR]
            refine go ok_Mo_squeezes [90] 60 ?_
            refine cLt (by omega) (by omega) (fun q => absurd q (by omega)) (fun _ => ?_)
            refine ix 24 (show _ < 26 by omega) rfl ?_
            refine xq (d + 3) ok_Mo_mayStand (r_mayStand E d N (agRW aR hR) a3 _ s (c + 1) (by omega) (by omega) (by omega)) (by omega) ?_
            rw [eair, hS, agL aR, agD aR, hL, hD, okC_cg (ρ' := ρ) (fun t ht _ => a3' t ht)]
            refine brN (fun hok => ?_) (fun hok => ?_)
            · refine ix s (show _ < 8 by omega) rfl ?_
              have b4 : RR (sI N 70 0 s (nI (c + 1))) (upN ρN s (c + 1)) := RR_up a3 (by omega)
              have b1 : Ag4 N (sI N 70 0 s (nI (c + 1))) := ag4_sI rfl
              have bR := aR.tr b1.R
              have egc : g c = exr S L D m n k (s + 1) (upN ρN s (c + 1)) := by
                rw [← hg]
                simp only [hok, cond_true]
                refine exr_cg k (s + 1) _ _ (by omega) (fun t ht hSt => ?_)
                by_cases e : t = s
                · subst e; rw [upN_same, upN_same]
                · rw [upN_ne e, upN_ne e, a3' t (by omega)]
              refine ix 24 (show _ < 26 by omega) rfl ?_
              refine xq (d + 3) ok_Mo_isOpen (r_isOpen E d _ (agRW bR hR) b4 _ m s (by rw [agS bR, hN]; exact hs) hm) (by omega) ?_
              have eair2 : (sI N 70 0 s (nI (c + 1))).1 65 0 24 = K.1 65 0 24 := eair
              rw [eair2, hS, agL bR, agD bR, agS bR, hL, hD, hN]
              refine brF (fun hop => ?_) (fun hop => ?_)
              · refine nm_r (nI_add _ _) (ihc _ (a1.tr b1) ?_ ⟨_, b4, fun t ht => by rw [upN_ne (by omega)]; exact a3' t ht⟩)
                have : g c = [] := by
                  rw [egc]; unfold exr
                  rw [ext_shut (n := n) (by omega) hop]; rfl
                rw [esucc, this, List.append_nil]
                exact a2
              · have hrec : ∀ mv', mv' = mvC S o (upN ρN s (c + 1)) (s + 1) → Mt E (d + 4 + k) m_Mo_squeezes [vP 60 0, vI (nI m), vI (nI s + nI 1), vI (nI mv')] (sI N 70 0 s (nI (c + 1))) (fun r M' => r = none ∧ Ag4 (sI N 70 0 s (nI (c + 1))) M' ∧ SQ S o n M' (sqF (cq S o n) (sqF (cq S o n) b ((List.range c).flatMap g)) (exr S L D m n k (s + 1) (upN ρN s (c + 1)))) ∧ ∃ ρ', RR M' ρ' ∧ ∀ t, t < s + 1 → ρ' t = upN ρN s (c + 1) t) := by
                  intro mv' hmv'
                  rw [nI_add]
                  refine ih (s + 1) (sI N 70 0 s (nI (c + 1))) _ (upN ρN s (c + 1)) mv' (by omega) bR b4 a2 hmv' (fun t ht hSt => ?_)
                  have hts : t ≠ s := by intro e; rw [e, hSs] at hSt; cases hSt
                  rw [upN_ne hts, a3' t (by omega)]
                  exact hoff t (by omega) hSt
                have emv : mvC S o (upN ρN s (c + 1)) s = mv := by
                  rw [hmv]
                  exact mvC_cg s (fun t ht _ => by rw [upN_ne (by omega), a3' t ht])
                have hdone : ∀ (r : Option AV) (M' : Me), (r = none ∧ Ag4 (sI N 70 0 s (nI (c + 1))) M' ∧ SQ S o n M' (sqF (cq S o n) (sqF (cq S o n) b ((List.range c).flatMap g)) (exr S L D m n k (s + 1) (upN ρN s (c + 1)))) ∧ ∃ ρ', RR M' ρ' ∧ ∀ t, t < s + 1 → ρ' t = upN ρN s (c + 1) t) → r = none ∧ Ag4 M M' ∧ SQ S o n M' (sqF (cq S o n) b ((List.range (c + 1)).flatMap g)) ∧ ∃ ρ', RR M' ρ' ∧ ∀ t, t < s → ρ' t = ρ t := by
                  rintro r M' ⟨rfl, q1, q2, ρq, q3, q4⟩
                  refine ⟨rfl, (a1.tr b1).tr q1, ?_, ρq, q3, fun t ht => by rw [q4 t (by omega), upN_ne (by omega)]; exact a3' t ht⟩
                  rw [esucc, sqF_app, egc]; exact q2
                refine ix s (show _ < 26 by omega) (by rw [nI_s8, Nat.zero_add]) ?_
                have ho6 : (sI N 70 0 s (nI (c + 1))).1 65 0 s = nI (o s) := by
                  show N.1 65 0 s = _
                  rw [ag65 aR]; exact ho3
                refine qNe rfl ho6 (by omega) (by omega) (fun hne => ?_) (fun heq => ?_)
                · refine xc (d + 4 + k) ok_Mo_squeezes (by
                    rw [nI_add mv 1]
                    refine hrec (mv + 1) ?_
                    rw [mvC, emv, hSs, upN_same, decide_eq_false hne]; rfl) (by omega) ?_
                  intro r M' hq
                  obtain ⟨rfl, q1, q2, q3⟩ := hdone r M' hq
                  exact nm_r (nI_add _ _) (ihc _ q1 q2 q3)
                · refine xc (d + 4 + k) ok_Mo_squeezes (by
                    rw [nI_add mv 0]
                    refine hrec (mv + 0) ?_
                    rw [mvC, emv, hSs, upN_same, decide_eq_true heq]; rfl) (by omega) ?_
                  intro r M' hq
                  obtain ⟨rfl, q1, q2, q3⟩ := hdone r M' hq
                  exact nm_r (nI_add _ _) (ihc _ q1 q2 q3)
            · refine nm_r (nI_add _ _) (ihc _ a1 ?_ ⟨ρN, a3, a3'⟩)
              have : g c = [] := by rw [← hg]; simp only [hok, cond_false]
              rw [esucc, this, List.append_nil]
              exact a2
        exact key 0 (Nat.zero_le _) M (Ag4.rf M) hsq ⟨ρ, hr, fun _ _ => rfl⟩
      · refine ix s (show _ < 26 by omega) (by rw [nI_s8, Nat.zero_add]) ?_
        refine ix s (show _ < 8 by omega) rfl ?_
        have ho6 : M.1 65 0 s = nI (o s) := by rw [ag65 hag]; exact ho3
        have b4 : RR (sI M 70 0 s (nI (o s))) (upN ρ s (o s)) := RR_up hr (by omega)
        have b1 : Ag4 M (sI M 70 0 s (nI (o s))) := ag4_sI rfl
        rw [ho6]
        refine xc (d + 4 + k) ok_Mo_squeezes (by
          rw [nI_add]
          refine ih (s + 1) (sI M 70 0 s (nI (o s))) b (upN ρ s (o s)) mv (by omega) (hag.tr b1.R) b4 hsq ?_ (fun t ht hSt => ?_)
          · rw [mvC, hSs, hmv]
            refine (mvC_cg s (fun t ht _ => ?_)).trans rfl
            rw [upN_ne (by omega)]
          · by_cases e : t = s
            · subst e; rw [upN_same]
            · rw [upN_ne e]; exact hoff t (by omega) hSt) (by omega) ?_
        rintro r M' ⟨rfl, q1, q2, ρq, q3, q4⟩
        refine And.intro rfl ⟨b1.tr q1, ?_, ρq, q3, fun t ht => by rw [q4 t (by omega), upN_ne (by omega)]⟩
        rw [← hX, exr_out hSs, exr_cg k (s + 1) ρ (upN ρ s (o s)) (by omega) (fun t ht hSt => ?_)]
        · exact q2
        · have hts : t ≠ s := by intro e; rw [e, hSs] at hSt; cases hSt
          rw [upN_ne hts]
    · refine And.intro rfl ⟨Ag4.rf M, ?_, ρ, hr, fun _ _ => rfl⟩
      rw [sqF_ge]
      · exact hsq
      · intro r hr2
        rw [← hX] at hr2
        have := exr_cost (o := o) hsk r hr2
        omega
theorem r_isSqueezed (M : Me) (hR : RW M) (hr : RRe M) (m : Nat) (hm : m ≤ 10) : Mt E (d + 13) m_Mo_isSqueezed [vP 60 0, vI (nI m)] M (fun r M' => r = some (vI (bI (aSq M m).isSome)) ∧ Ag4 M M' ∧ RRe M' ∧ SQ (bt (M.1 65 0 24)) (oN M) (sN M) M' (aSq M m)) := by
  obtain ⟨ρ, hr⟩ := hr
  have hn := hR.2.1.2
  refine Mt.go ok_Mo_isSqueezed [] 60 rfl ?_
  have a1 : Ag4 M (sI M 60 0 41 (nI 9)) := ag4_sI rfl
  have h := r_squeezes E d M hR m hm _ rfl _ rfl _ rfl _ rfl _ rfl (sN M) 0 (sI M 60 0 41 (nI 9)) none ρ 0 (Nat.zero_add _) a1.R hr ⟨rfl, fun r hr => by cases hr⟩ rfl (fun t ht => absurd ht (by omega))
  refine xc (d + 4 + sN M) ok_Mo_squeezes h (by omega) ?_
  rintro r M' ⟨rfl, q1, q2, ρq, q3, -⟩
  have eX : exr (bt (M.1 65 0 24)) (aLst M) (aDist M) m (sN M) (sN M) 0 ρ = aX M (M.1 65 0 24) m := exr_cg _ _ _ _ (by omega) (fun t ht => absurd ht (by omega))
  rw [eX] at q2
  have hq2 : SQ (bt (M.1 65 0 24)) (oN M) (sN M) M' (aSq M m) := q2
  cases hs : aSq M m with
  | none =>
    rw [hs] at hq2
    refine qLt rfl hq2.1 (by omega) (by show 9 < _; omega) (fun _ => ?_) (fun q => absurd q (by show ¬ 9 ≤ 8; omega))
    exact And.intro (Or.inl rfl) (And.intro rfl ⟨a1.tr q1, ⟨ρq, q3⟩, hq2⟩)
  | some z =>
    rw [hs] at hq2
    have hz : cq (bt (M.1 65 0 24)) (oN M) (sN M) z ≤ sN M := mvC_le _ _ _ _
    refine qLt rfl hq2.1 (by omega) (by show cq _ _ _ z < _; omega) (fun q => absurd q (by show ¬ 8 < cq _ _ _ z; omega)) (fun _ => ?_)
    exact And.intro (Or.inr rfl) (And.intro rfl ⟨a1.tr q1, ⟨ρq, q3⟩, hq2⟩)
end R15
