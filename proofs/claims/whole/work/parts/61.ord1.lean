/-! the order of moves: no choice has to be taken back -/
def lsq (f : Nat → Bool) : Nat → Nat → Option Nat
  | _, 0 => none
  | s, k + 1 => bif f s then some s else lsq f (s + 1) k
def gdy (S : Nat → Bool) (D : DT) (β : Nat → Nat) (n : Nat) : Nat → (Nat → Nat) → Option (List Nat)
  | 0, _ => some []
  | k + 1, θ => match lsq (fun s => !decide (θ s = β s) && quiet S D β n θ s) 0 n with
    | none => none
    | some s => (gdy S D β n k (upN θ s (β s))).map (s :: ·)
/-- a sequence that can be gone -/
def okS (S : Nat → Bool) (D : DT) (β : Nat → Nat) (n : Nat) : (Nat → Nat) → List Nat → Prop
  | _, [] => True
  | θ, s :: l => s < n ∧ ¬ θ s = β s ∧ quiet S D β n θ s = true ∧ okS S D β n (upN θ s (β s)) l
def uns (β θ : Nat → Nat) (n : Nat) : Nat := sumN (fun t => bif !decide (θ t = β t) then 1 else 0) n
theorem uns_up {β θ : Nat → Nat} {s : Nat} (h : ¬ θ s = β s) : ∀ n, uns β (upN θ s (β s)) n + (if s < n then 1 else 0) = uns β θ n
  | 0 => rfl
  | n + 1 => by
    have ih := uns_up h n
    unfold uns at ih ⊢
    rw [sumN, sumN]
    by_cases e : n = s
    · subst e
      rw [upN_same, decide_eq_true rfl, decide_eq_false h, if_pos (by omega)]
      rw [if_neg (by omega)] at ih
      simp only [Bool.not_true, Bool.not_false, cond_true, cond_false]
      omega
    · rw [upN_ne e]
      have : (s < n + 1) = (s < n) := propext (by omega)
      simp only [this]
      omega
theorem uns_0 {β θ : Nat → Nat} : ∀ {n s : Nat}, uns β θ n = 0 → s < n → θ s = β s
  | 0, s, _, hs => absurd hs (Nat.not_lt_zero _)
  | n + 1, s, h, hs => by
    unfold uns at h
    rw [sumN] at h
    by_cases e : s = n
    · subst e
      cases hd : decide (θ s = β s) with
      | true => exact of_decide_eq_true hd
      | false => rw [hd] at h; simp at h
    · exact uns_0 (n := n) (by unfold uns; omega) (by omega)
theorem okS_in {S : Nat → Bool} {D : DT} {β : Nat → Nat} {n : Nat} : ∀ (l : List Nat) (θ : Nat → Nat), okS S D β n θ l → l.length = uns β θ n → ∀ s, s < n → ¬ θ s = β s → s ∈ l
  | [], θ, _, hl, s, hs, hn => absurd (uns_0 hl.symm hs) hn
  | a :: l, θ, h, hl, s, hs, hn => by
    obtain ⟨h1, h2, h3, h4⟩ := h
    by_cases e : s = a
    · rw [e]; exact List.mem_cons_self
    · refine List.mem_cons_of_mem _ (okS_in l _ h4 ?_ s hs ?_)
      · have := uns_up h2 n
        rw [if_pos h1] at this
        rw [List.length_cons] at hl
        omega
      · rw [upN_ne e]; exact hn
theorem quiet_up {S : Nat → Bool} {D : DT} {β : Nat → Nat} {n : Nat} {θ : Nat → Nat} {s a : Nat} (hv : ∀ t u, t < n → u < n → t ≠ u → S u = true → S t = true → D t (β t) u (β u) = false) (ha : a < n) (hSa : S a = true) (hsn : s < n) (h : quiet S D β n θ a = true) : quiet S D β n (upN θ s (β s)) a = true := by
  unfold quiet at h ⊢
  refine all_t.mpr (fun t ht => ?_)
  have := all_t.mp h t ht
  by_cases e : t = s
  · subst e
    rw [upN_same]
    by_cases e2 : t = a
    · rw [decide_eq_true e2]; rfl
    · rw [decide_eq_false e2, Bool.false_or]
      cases hS : S t with
      | false => rfl
      | true => rw [hv a t ha ht (Ne.symm e2) hS hSa]; rfl
  · rw [upN_ne e]; exact this
theorem upN_comm {θ : Nat → Nat} {a s va vs : Nat} (h : a ≠ s) : upN (upN θ a va) s vs = upN (upN θ s vs) a va := by
  funext t
  unfold upN
  by_cases e1 : t = s
  · subst e1
    rw [if_pos rfl, if_neg (Ne.symm h), if_pos rfl]
  · by_cases e2 : t = a
    · rw [if_neg e1, if_pos e2, if_pos e2]
    · rw [if_neg e1, if_neg e2, if_neg e2, if_neg e1]
theorem upN_idem {θ : Nat → Nat} {s v : Nat} : upN (upN θ s v) s v = upN θ s v := by
  funext t
  unfold upN
  by_cases e : t = s
  · rw [if_pos e, if_pos e]
  · rw [if_neg e, if_neg e]
/-- who may go now may go first -/
theorem okS_first {S : Nat → Bool} {D : DT} {β : Nat → Nat} {n : Nat} (hv : ∀ t u, t < n → u < n → t ≠ u → S u = true → S t = true → D t (β t) u (β u) = false) {s : Nat} (hsn : s < n) : ∀ (l : List Nat) (θ : Nat → Nat), (∀ t, t < n → ¬ θ t = β t → S t = true) → okS S D β n θ l → s ∈ l → okS S D β n (upN θ s (β s)) (l.erase s)
  | [], _, _, _, hs => by cases hs
  | a :: l, θ, hθ, h, hs => by
    obtain ⟨h1, h2, h3, h4⟩ := h
    by_cases e : a = s
    · subst e
      rw [List.erase_cons_head]; exact h4
    · rw [List.erase_cons_tail (by simpa using e)]
      have hs' : s ∈ l := by
        rcases List.mem_cons.mp hs with q | q
        · exact absurd q.symm e
        · exact q
      have hSa := hθ a h1 h2
      refine ⟨h1, ?_, quiet_up hv h1 hSa hsn h3, ?_⟩
      · rw [upN_ne e]; exact h2
      · rw [← upN_comm e]
        refine okS_first hv hsn l _ (fun t ht hn => ?_) h4 hs'
        by_cases e2 : t = a
        · subst e2; rw [upN_same] at hn; exact absurd rfl hn
        · rw [upN_ne e2] at hn; exact hθ t ht hn
theorem lsq_some {f : Nat → Bool} : ∀ (k s r : Nat), lsq f s k = some r → s ≤ r ∧ r < s + k ∧ f r = true ∧ ∀ t, s ≤ t → t < r → f t = false
  | 0, s, r, h => by cases h
  | k + 1, s, r, h => by
    rw [lsq] at h
    cases hf : f s with
    | true =>
      rw [hf] at h; cases h
      exact ⟨Nat.le_refl _, by omega, hf, fun t h1 h2 => by omega⟩
    | false =>
      rw [hf] at h
      obtain ⟨a1, a2, a3, a4⟩ := lsq_some k (s + 1) r h
      refine ⟨by omega, by omega, a3, fun t h1 h2 => ?_⟩
      by_cases e : t = s
      · rw [e]; exact hf
      · exact a4 t (by omega) h2
theorem lsq_none {f : Nat → Bool} : ∀ (k s : Nat), lsq f s k = none → ∀ t, s ≤ t → t < s + k → f t = false
  | 0, s, _, t, h1, h2 => by omega
  | k + 1, s, h, t, h1, h2 => by
    rw [lsq] at h
    cases hf : f s with
    | true => rw [hf] at h; cases h
    | false =>
      rw [hf] at h
      by_cases e : t = s
      · rw [e]; exact hf
      · exact lsq_none k (s + 1) h t (by omega) (by omega)
theorem fsq_none {g : Nat → Option (List Nat)} : ∀ (k s : Nat), fsq g s k = none ↔ ∀ t, s ≤ t → t < s + k → g t = none
  | 0, s => ⟨fun _ t h1 h2 => by omega, fun _ => rfl⟩
  | k + 1, s => by
    rw [fsq]
    cases hg : g s with
    | some l =>
      constructor
      · intro h; cases h
      · intro h; have := h s (Nat.le_refl _) (by omega); rw [hg] at this; cases this
    | none =>
      dsimp only
      rw [fsq_none k (s + 1)]
      constructor
      · intro h t h1 h2
        by_cases e : t = s
        · rw [e]; exact hg
        · exact h t (by omega) (by omega)
      · intro h t h1 h2; exact h t (by omega) (by omega)
theorem fsq_at {g : Nat → Option (List Nat)} {r : Nat} {l : List Nat} : ∀ (k s : Nat), s ≤ r → r < s + k → g r = some l → (∀ t, s ≤ t → t < r → g t = none) → fsq g s k = some l
  | 0, s, h1, h2, _, _ => by omega
  | k + 1, s, h1, h2, h3, h4 => by
    rw [fsq]
    by_cases e : r = s
    · subst e; rw [h3]
    · rw [h4 s (Nat.le_refl _) (by omega)]
      exact fsq_at k (s + 1) (by omega) (by omega) h3 (fun t t1 t2 => h4 t (by omega) t2)
theorem fsq_of {g : Nat → Option (List Nat)} {l : List Nat} : ∀ (k s : Nat), fsq g s k = some l → ∃ r, s ≤ r ∧ r < s + k ∧ g r = some l
  | 0, s, h => by cases h
  | k + 1, s, h => by
    rw [fsq] at h
    cases hg : g s with
    | some l' => rw [hg] at h; cases h; exact ⟨s, Nat.le_refl _, by omega, hg⟩
    | none =>
      rw [hg] at h
      obtain ⟨r, h1, h2, h3⟩ := fsq_of k (s + 1) h
      exact ⟨r, by omega, by omega, h3⟩
theorem ord_ok {S : Nat → Bool} {D : DT} {β : Nat → Nat} {n : Nat} : ∀ (k : Nat) (θ : Nat → Nat) (l : List Nat), ordF S D β n k θ = some l → l.length = k ∧ okS S D β n θ l
  | 0, θ, l, h => by rw [ordF] at h; cases h; exact ⟨rfl, trivial⟩
  | k + 1, θ, l, h => by
    rw [ordF] at h
    obtain ⟨s, h1, h2, h3⟩ := fsq_of n 0 h
    cases hc : (!decide (θ s = β s) && quiet S D β n θ s) with
    | false => rw [hc] at h3; cases h3
    | true =>
      rw [hc, cond_true] at h3
      cases hr : ordF S D β n k (upN θ s (β s)) with
      | none => rw [hr] at h3; cases h3
      | some l' =>
        rw [hr] at h3
        cases h3
        obtain ⟨a1, a2⟩ := ord_ok k _ l' hr
        rw [Bool.and_eq_true] at hc
        exact ⟨by rw [List.length_cons, a1], by omega, by simpa using hc.1, hc.2, a2⟩
theorem ord_ex {S : Nat → Bool} {D : DT} {β : Nat → Nat} {n : Nat} : ∀ (l : List Nat) (θ : Nat → Nat), okS S D β n θ l → (ordF S D β n l.length θ).isSome = true
  | [], θ, _ => rfl
  | s :: l, θ, h => by
    obtain ⟨h1, h2, h3, h4⟩ := h
    rw [List.length_cons, ordF]
    have ih := ord_ex l _ h4
    cases hf : fsq (fun s => bif !decide (θ s = β s) && quiet S D β n θ s then (ordF S D β n l.length (upN θ s (β s))).map (s :: ·) else none) 0 n with
    | some _ => rfl
    | none =>
      have := (fsq_none n 0).mp hf s (Nat.zero_le _) (by omega)
      rw [decide_eq_false h2, h3] at this
      cases hr : ordF S D β n l.length (upN θ s (β s)) with
      | none => rw [hr] at ih; cases ih
      | some l' => rw [hr] at this; cases this
/-- the first order is the greedy one -/
theorem ord_gdy {S : Nat → Bool} {D : DT} {β : Nat → Nat} {n : Nat} (hv : ∀ t u, t < n → u < n → t ≠ u → S u = true → S t = true → D t (β t) u (β u) = false) : ∀ (k : Nat) (θ : Nat → Nat), (∀ t, t < n → ¬ θ t = β t → S t = true) → uns β θ n = k → ordF S D β n k θ = gdy S D β n k θ
  | 0, θ, _, _ => rfl
  | k + 1, θ, hθ, hk => by
    rw [ordF, gdy]
    cases hl : lsq (fun s => !decide (θ s = β s) && quiet S D β n θ s) 0 n with
    | none =>
      dsimp only
      refine (fsq_none n 0).mpr (fun t h1 h2 => ?_)
      rw [lsq_none n 0 hl t h1 h2]; rfl
    | some s =>
      dsimp only
      obtain ⟨s1, s2, s3, s4⟩ := lsq_some n 0 s hl
      have s3' := s3
      rw [Bool.and_eq_true] at s3'
      have hne : ¬ θ s = β s := by simpa using s3'.1
      have hθ' : ∀ t, t < n → ¬ upN θ s (β s) t = β t → S t = true := fun t ht hn => by
        by_cases e : t = s
        · subst e; rw [upN_same] at hn; exact absurd rfl hn
        · rw [upN_ne e] at hn; exact hθ t ht hn
      have hu := uns_up hne n
      rw [if_pos (by omega)] at hu
      have ih := ord_gdy hv k (upN θ s (β s)) hθ' (by omega)
      rw [← ih]
      cases hr : ordF S D β n k (upN θ s (β s)) with
      | some l =>
        refine fsq_at n 0 s1 s2 (by rw [s3, cond_true, hr]; rfl) (fun t t1 t2 => by rw [s4 t t1 t2]; rfl)
      | none =>
        refine (fsq_none n 0).mpr (fun t h1 h2 => ?_)
        cases hc : (!decide (θ t = β t) && quiet S D β n θ t) with
        | false => rfl
        | true =>
          rw [cond_true]
          cases hr2 : ordF S D β n k (upN θ t (β t)) with
          | none => rfl
          | some l =>
            exfalso
            obtain ⟨a1, a2⟩ := ord_ok k _ l hr2
            rw [Bool.and_eq_true] at hc
            have hnt : ¬ θ t = β t := by simpa using hc.1
            have hall : okS S D β n θ (t :: l) := ⟨by omega, hnt, hc.2, a2⟩
            have hin := okS_in (t :: l) θ hall (by rw [List.length_cons, a1, hk]) s (by omega) hne
            have hf := okS_first hv (show s < n by omega) (t :: l) θ hθ hall hin
            have hlen : ((t :: l).erase s).length = k := by
              rw [List.length_erase_of_mem hin, List.length_cons, a1]; rfl
            have := ord_ex _ _ hf
            rw [hlen, hr] at this
            cases this
