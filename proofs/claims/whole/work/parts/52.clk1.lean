/-! the clock, in mathematics: rounds in which nothing comes to pass -/
def RVl (M : Me) : Prop := ∀ s, s < sN M → ∃ v, M.1 65 0 (8 + s) = nI v ∧ v ≤ 999
section CK
variable {fit : Int32 → Bool} {w : Nat → Int32} {p : Int32}
theorem rS_left {t : Nat} (ht : t < 32) (z : C4) : ∀ i, i < 32 → (bt (rStep fit w p t z).1 i = true → bt z.1 i = true) ∧ (i ≠ t → bt (rStep fit w p t z).1 i = bt z.1 i) := by
  intro i hi
  unfold rStep
  cases bt z.1 t with
  | false => exact ⟨fun h => h, fun _ => rfl⟩
  | true =>
    have e : bt (z.1 &&& (b1 t ^^^ -(nI 1))) i = (bt z.1 i && !decide (i = t)) := by rw [b_and, b_not hi, b1_at ht hi]
    cases fit (z.2.1 ||| b1 t) with
    | false =>
      simp only [Bool.not_true, cond_false, Bool.not_false, cond_true]
      rw [e]
      exact ⟨fun h => by rw [Bool.and_eq_true] at h; exact h.1, fun h => by rw [decide_eq_false h]; simp⟩
    | true =>
      cases decide (p < w t) with
      | false => exact ⟨fun h => h, fun _ => rfl⟩
      | true =>
        simp only [Bool.not_true, cond_false, cond_true]
        rw [e]
        exact ⟨fun h => by rw [Bool.and_eq_true] at h; exact h.1, fun h => by rw [decide_eq_false h]; simp⟩
theorem rS_stay {t : Nat} (z : C4) (i : Nat) (h : bt z.2.1 i = true) : bt (rStep fit w p t z).2.1 i = true := by
  unfold rStep
  cases bt z.1 t with
  | false => exact h
  | true =>
    cases fit (z.2.1 ||| b1 t) with
    | false => exact h
    | true =>
      cases decide (p < w t) with
      | false => exact h
      | true =>
        show bt (z.2.1 ||| b1 t) i = true
        rw [b_or, h]; rfl
theorem rR_stay (z : C4) (i : Nat) (h : bt z.2.1 i = true) : ∀ n, bt (rRnd fit w p n z).2.1 i = true
  | 0 => h
  | n + 1 => by rw [rRnd]; exact rS_stay _ i (rR_stay z i h n)
theorem rR_left (z : C4) : ∀ n, n ≤ 32 → ∀ i, i < 32 → (bt (rRnd fit w p n z).1 i = true → bt z.1 i = true) ∧ (n ≤ i → bt (rRnd fit w p n z).1 i = bt z.1 i)
  | 0, _, i, _ => ⟨fun h => h, fun _ => rfl⟩
  | n + 1, hn, i, hi => by
    obtain ⟨h1, h2⟩ := rR_left z n (by omega) i hi
    obtain ⟨g1, g2⟩ := rS_left (fit := fit) (w := w) (p := p) (t := n) (by omega) (rRnd fit w p n z) i hi
    rw [rRnd]
    exact ⟨fun h => h1 (g1 h), fun h => by rw [g2 (by omega), h2 (by omega)]⟩
/-- a round in which nobody came to stay -/
theorem rR_quiet (z : C4) : ∀ n, n ≤ 32 → (∀ i, i < 32 → bt (rRnd fit w p n z).2.1 i = bt z.2.1 i) → ∀ s, s < n → bt (rRnd fit w p n z).1 s = true → fit (z.2.1 ||| b1 s) = true ∧ ¬ p < w s
  | 0, _, _, s, hs, _ => absurd hs (Nat.not_lt_zero _)
  | n + 1, hn, hq, s, hs, hb => by
    have hmid : ∀ i, i < 32 → bt (rRnd fit w p n z).2.1 i = bt z.2.1 i := by
      intro i hi
      cases h : bt (rRnd fit w p n z).2.1 i with
      | true =>
        have := rS_stay (fit := fit) (w := w) (p := p) (t := n) (rRnd fit w p n z) i h
        rw [← hq i hi, rRnd, this]
      | false =>
        cases h2 : bt z.2.1 i with
        | false => rfl
        | true => rw [rR_stay z i h2 n] at h; cases h
    have hst : (rRnd fit w p n z).2.1 = z.2.1 := b_ext hmid
    obtain ⟨g1, g2⟩ := rS_left (fit := fit) (w := w) (p := p) (t := n) (by omega) (rRnd fit w p n z) s (by omega)
    rw [rRnd] at hb hq
    by_cases e : s = n
    · subst e
      have hb0 := g1 hb
      unfold rStep at hb hq
      rw [hb0, hst] at hb hq
      cases hf : fit (z.2.1 ||| b1 s) with
      | false =>
        rw [hf] at hb
        simp only [Bool.not_true, cond_false, Bool.not_false, cond_true] at hb
        rw [b_and, b_not (by omega), b1_at (by omega) (by omega), decide_eq_true rfl] at hb
        simp at hb
      | true =>
        refine ⟨rfl, fun hp => ?_⟩
        rw [hf, decide_eq_true hp] at hb
        simp only [Bool.not_true, cond_false, cond_true] at hb
        rw [b_and, b_not (by omega), b1_at (by omega) (by omega), decide_eq_true rfl] at hb
        simp at hb
    · rw [g2 e] at hb
      exact rR_quiet z n (by omega) hmid s (by omega) hb
theorem rR_same (z : C4) : ∀ n, (∀ s, s < n → bt z.1 s = true → fit (z.2.1 ||| b1 s) = true ∧ ¬ p < w s) → rRnd fit w p n z = z
  | 0, _ => rfl
  | n + 1, h => by
    rw [rRnd, rR_same z n (fun s hs => h s (by omega))]
    unfold rStep
    cases hb : bt z.1 n with
    | false => rfl
    | true =>
      obtain ⟨h1, h2⟩ := h n (by omega) hb
      rw [h1, decide_eq_false h2]; rfl
theorem rR_more (z : C4) (n : Nat) (h : ∀ i, n ≤ i → i < 32 → bt z.1 i = false) (hn : n ≤ 32) : ∀ j, n + j ≤ 32 → rRnd fit w p (n + j) z = rRnd fit w p n z
  | 0, _ => rfl
  | j + 1, hj => by
    rw [show n + (j + 1) = (n + j) + 1 by omega, rRnd, rR_more z n h hn j (by omega)]
    have : bt (rRnd fit w p n z).1 (n + j) = false := by
      cases hb : bt (rRnd fit w p n z).1 (n + j) with
      | false => rfl
      | true =>
        have := (rR_left (fit := fit) (w := w) (p := p) z n hn (n + j) (by omega)).1 hb
        rw [h (n + j) (by omega) (by omega)] at this; cases this
    unfold rStep
    rw [this]; rfl
end CK
section CK2
variable {fit : Int32 → Bool} {w : Nat → Int32} {n st : Nat}
theorem rRun_f (hst : 1 ≤ st) : ∀ (k k' p : Nat) (z : C4) (r : Nat), p + 1 ≤ k → p + 1 ≤ k' → rRun fit w n st k p z r = rRun fit w n st k' p z r
  | 0, _, _, _, _, h, _ => absurd h (by omega)
  | _ + 1, 0, _, _, _, _, h => absurd h (by omega)
  | k + 1, k' + 1, p, z, r, h1, h2 => by
    rw [rRun, rRun]
    cases hc : (decide ((rRnd fit w (nI p) n z).1 = nI 0) || decide (p = 0)) with
    | true => rfl
    | false =>
      rw [cond_false, cond_false]
      have hp : p ≠ 0 := fun e => by rw [decide_eq_true e, Bool.or_true] at hc; cases hc
      exact rRun_f hst k k' (p - st) _ (r + 1) (by omega) (by omega)
/-- the clock from a price on, with fuel enough -/
def rGo (fit : Int32 → Bool) (w : Nat → Int32) (n st p : Nat) (z : C4) (r : Nat) : Nat × C4 := rRun fit w n st (p + 1) p z r
theorem rGo_eq (hst : 1 ≤ st) (p : Nat) (z : C4) (r : Nat) : rGo fit w n st p z r = bif decide ((rRnd fit w (nI p) n z).1 = nI 0) || decide (p = 0) then (r + 1, rRnd fit w (nI p) n z) else rGo fit w n st (p - st) (rRnd fit w (nI p) n z) (r + 1) := by
  unfold rGo
  rw [rRun]
  cases hc : (decide ((rRnd fit w (nI p) n z).1 = nI 0) || decide (p = 0)) with
  | true => rfl
  | false =>
    rw [cond_false, cond_false]
    have hp : p ≠ 0 := fun e => by rw [decide_eq_true e, Bool.or_true] at hc; cases hc
    exact rRun_f hst _ _ _ _ _ (by omega) (by omega)
/-- rounds that change nothing are passed over -/
theorem rGo_skip (hst : 1 ≤ st) {P g : Nat} {z : C4} {r : Nat} (hg : 1 ≤ g) (hl : ¬ z.1 = nI 0) (hq : ∀ p, g ≤ p → p < P → rRnd fit w (nI p) n z = z) : ∀ j, j * st + g ≤ P → rGo fit w n st (P - st) z r = rGo fit w n st (P - (j + 1) * st) z (r + j)
  | 0, _ => by rw [Nat.zero_add, Nat.one_mul, Nat.add_zero]
  | j + 1, h => by
    have e1 : (j + 1) * st = j * st + st := Nat.succ_mul j st
    rw [rGo_skip hst hg hl hq j (by omega), rGo_eq hst]
    have hp1 : g ≤ P - (j + 1) * st := by omega
    have hp2 : P - (j + 1) * st < P := by omega
    rw [hq _ hp1 hp2, decide_eq_false hl, decide_eq_false (show ¬ P - (j + 1) * st = 0 by omega), Bool.or_false, cond_false]
    have e2 : (j + 1 + 1) * st = (j + 1) * st + st := Nat.succ_mul (j + 1) st
    rw [show P - (j + 1) * st - st = P - (j + 1 + 1) * st by omega, show r + j + 1 = r + (j + 1) by omega]
end CK2
/-! what frozen, left and prices are -/
def okZ (n : Nat) (z : C4) : Prop := (∀ i, i < 32 → bt z.1 i = true → i < n) ∧ (∀ i, i < 32 → bt z.2.1 i = true → i < n) ∧ (∀ i, i < 32 → bt z.2.2.1 i = true → i < n ∧ bt z.1 i = false) ∧ (∀ t, bt z.2.2.1 t = false → z.2.2.2 t = -(nI 2))
theorem okZ_step {fit : Int32 → Bool} {w : Nat → Int32} {p : Int32} {n t : Nat} (hn : n ≤ 32) (ht : t < n) {z : C4} (h : okZ n z) : okZ n (rStep fit w p t z) := by
  obtain ⟨h1, h2, h3, h4⟩ := h
  unfold rStep
  cases hb : bt z.1 t with
  | false => exact ⟨h1, h2, h3, h4⟩
  | true =>
    have e : ∀ i, i < 32 → bt (z.1 &&& (b1 t ^^^ -(nI 1))) i = (bt z.1 i && !decide (i = t)) := fun i hi => by rw [b_and, b_not hi, b1_at (by omega) hi]
    cases fit (z.2.1 ||| b1 t) with
    | false =>
      simp only [Bool.not_true, cond_false, Bool.not_false, cond_true]
      refine ⟨fun i hi hh => ?_, h2, fun i hi hh => ?_, fun u hu => ?_⟩
      · dsimp only at hh; rw [e i hi, Bool.and_eq_true] at hh; exact h1 i hi hh.1
      · dsimp only at hh ⊢
        rw [b_or, b1_at (by omega) hi] at hh
        rw [e i hi]
        by_cases c : i = t
        · subst c; exact ⟨ht, by rw [decide_eq_true rfl]; simp⟩
        · rw [decide_eq_false c, Bool.or_false] at hh
          obtain ⟨k1, k2⟩ := h3 i hi hh
          exact ⟨k1, by rw [k2]; rfl⟩
      · dsimp only at hu ⊢
        rw [b_or] at hu
        simp only [Bool.or_eq_false_iff] at hu
        unfold upI
        by_cases c : u = t
        · subst c
          rw [b1_at (by omega) (by omega), decide_eq_true rfl] at hu
          exact absurd hu.2 (by decide)
        · rw [if_neg c]; exact h4 u hu.1
    | true =>
      cases decide (p < w t) with
      | false => exact ⟨h1, h2, h3, h4⟩
      | true =>
        simp only [Bool.not_true, cond_false, cond_true]
        refine ⟨fun i hi hh => ?_, fun i hi hh => ?_, fun i hi hh => ?_, h4⟩
        · dsimp only at hh; rw [e i hi, Bool.and_eq_true] at hh; exact h1 i hi hh.1
        · dsimp only at hh
          rw [b_or, b1_at (by omega) hi] at hh
          by_cases c : i = t
          · subst c; exact ht
          · rw [decide_eq_false c, Bool.or_false] at hh; exact h2 i hi hh
        · dsimp only at hh ⊢
          obtain ⟨k1, k2⟩ := h3 i hi hh
          exact ⟨k1, by rw [e i hi, k2]; rfl⟩
theorem okZ_rnd {fit : Int32 → Bool} {w : Nat → Int32} {p : Int32} {n : Nat} (hn : n ≤ 32) {z : C4} (h : okZ n z) : ∀ t, t ≤ n → okZ n (rRnd fit w p t z)
  | 0, _ => h
  | t + 1, ht => by rw [rRnd]; exact okZ_step hn (by omega) (okZ_rnd hn h t (by omega))
theorem okZ_go {fit : Int32 → Bool} {w : Nat → Int32} {n st : Nat} (hn : n ≤ 32) : ∀ (k p : Nat) (z : C4) (r : Nat), okZ n z → okZ n (rRun fit w n st k p z r).2
  | 0, _, _, _, h => h
  | k + 1, p, z, r, h => by
    rw [rRun]
    have h1 := okZ_rnd (fit := fit) (w := w) (p := nI p) hn h n (Nat.le_refl _)
    cases (decide ((rRnd fit w (nI p) n z).1 = nI 0) || decide (p = 0)) with
    | true => exact h1
    | false => exact okZ_go hn k _ _ _ h1
/-- the greatest worth of a set, 1 at least -/
def grt (v : Nat → Nat) (x : Int32) : Nat → Nat
  | 0 => 1
  | n + 1 => bif bt x n then max (grt v x n) (v n) else grt v x n
theorem grt_ge {v : Nat → Nat} {x : Int32} : ∀ n, 1 ≤ grt v x n ∧ ∀ s, s < n → bt x s = true → v s ≤ grt v x n
  | 0 => ⟨Nat.le_refl _, fun s hs => absurd hs (Nat.not_lt_zero _)⟩
  | n + 1 => by
    obtain ⟨h1, h2⟩ := grt_ge (v := v) (x := x) n
    rw [grt]
    cases hb : bt x n with
    | false =>
      refine ⟨h1, fun s hs hx => ?_⟩
      by_cases e : s = n
      · rw [e, hb] at hx; cases hx
      · exact h2 s (by omega) hx
    | true =>
      rw [cond_true]
      refine ⟨by omega, fun s hs hx => ?_⟩
      by_cases e : s = n
      · rw [e]; omega
      · have := h2 s (by omega) hx; omega
theorem grt_le {v : Nat → Nat} {x : Int32} {m : Nat} (hm : 1 ≤ m) : ∀ n, (∀ s, s < n → bt x s = true → v s ≤ m) → grt v x n ≤ m
  | 0, _ => hm
  | n + 1, h => by
    have ih := grt_le hm n (fun s hs => h s (by omega))
    rw [grt]
    cases hb : bt x n with
    | false => exact ih
    | true => have := h n (by omega) hb; rw [cond_true]; omega
