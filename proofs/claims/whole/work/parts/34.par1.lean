/-! texts: tokens of a tape, as numbers -/
def runU (p : Nat → Bool) : Nat → Nat → Nat
  | 0, a => a
  | f + 1, a => bif p a then runU p f (a + 1) else a
/-- the first number from a on, below 700, that is not such -/
def rnU (p : Nat → Bool) (a : Nat) : Nat := runU p (700 - a) a
theorem rnU_t {p : Nat → Bool} {a : Nat} (h : p a = true) (ha : a < 700) : rnU p a = rnU p (a + 1) := by
  unfold rnU
  rw [show 700 - a = (700 - (a + 1)) + 1 by omega, runU, h]; rfl
theorem rnU_f {p : Nat → Bool} {a : Nat} (h : p a = false) : rnU p a = a := by
  unfold rnU
  cases hf : 700 - a with
  | zero => rfl
  | succ f => rw [runU, h]; rfl
theorem runU_ge (p : Nat → Bool) : ∀ (f a : Nat), a ≤ runU p f a
  | 0, a => Nat.le_refl a
  | f + 1, a => by
    rw [runU]
    cases p a
    · exact Nat.le_refl a
    · exact Nat.le_of_succ_le (runU_ge p f (a + 1))
theorem rnU_ge (p : Nat → Bool) (a : Nat) : a ≤ rnU p a := runU_ge p _ a
theorem runU_le (p : Nat → Bool) {n : Nat} (hp : ∀ k, p k = true → k < n) : ∀ (f a : Nat), a ≤ n → runU p f a ≤ n
  | 0, a, h => h
  | f + 1, a, h => by
    rw [runU]
    cases hc : p a
    · exact h
    · exact runU_le p hp f (a + 1) (hp a hc)
theorem runU_in (p : Nat → Bool) : ∀ (f a k : Nat), a ≤ k → k < runU p f a → p k = true
  | 0, a, k, h1, h2 => absurd h2 (by rw [runU]; omega)
  | f + 1, a, k, h1, h2 => by
    rw [runU] at h2
    cases hc : p a
    · rw [hc, cond_false] at h2; omega
    · rw [hc, cond_true] at h2
      rcases Nat.eq_or_lt_of_le h1 with e | e
      · rw [← e]; exact hc
      · exact runU_in p f (a + 1) k e h2
theorem rnU_in {p : Nat → Bool} {a k : Nat} (h1 : a ≤ k) (h2 : k < rnU p a) : p k = true := runU_in p _ a k h1 h2
/-- a tape: its bytes and how many -/
abbrev TT : Type := (Nat → Nat) × Nat
def tSp (T : TT) (k : Nat) : Bool := decide (k < T.2) && decide (T.1 k = 32)
def tLe (T : TT) (k : Nat) : Bool := decide (k < T.2) && (decide (97 ≤ T.1 k) && decide (T.1 k ≤ 122))
def tDi (T : TT) (k : Nat) : Bool := decide (k < T.2) && (decide (48 ≤ T.1 k) && decide (T.1 k ≤ 57))
/-- where the next token begins; where one that begins at b ends; its kind: 0 none, 1 end, 2 word, 3 whole, 4 sign -/
def tB (T : TT) (a : Nat) : Nat := rnU (tSp T) a
def tE (T : TT) (b : Nat) : Nat := bif decide (b = T.2) then b else bif tLe T b then rnU (tLe T) b else bif tDi T b then rnU (tDi T) b else b + 1
def tK (T : TT) (b : Nat) : Nat := bif decide (b = T.2) then 1 else bif tLe T b then (if 8 < rnU (tLe T) b - b then 0 else 2) else bif tDi T b then (if 3 < rnU (tDi T) b - b then 0 else 3) else bif (decide (T.1 b = 59) || decide (T.1 b = 44)) then 4 else 0
/-- the number of so many digits; of so many letters -/
def dgV (f : Nat → Nat) : Nat → Nat
  | 0 => 0
  | l + 1 => 10 * dgV f l + (f l - 48)
def wdV (f : Nat → Nat) : Nat → Nat
  | 0 => 0
  | l + 1 => wdV f l * 32 + (f l - 96)
def tL (T : TT) (b : Nat) : Nat := tE T b - b
def tN3 (T : TT) (b : Nat) : Nat := dgV (fun i => T.1 (b + i)) (tL T b)
def tW (T : TT) (b : Nat) : Nat := wdV (fun i => T.1 (b + i)) (tL T b)
/-- the beginning of the token behind one -/
def tX (T : TT) (b : Nat) : Nat := tB T (tE T b)
theorem tSp_lt {T : TT} {k : Nat} (h : tSp T k = true) : k < T.2 := by
  unfold tSp at h; rw [Bool.and_eq_true] at h; exact of_decide_eq_true h.1
theorem tLe_lt {T : TT} {k : Nat} (h : tLe T k = true) : k < T.2 := by
  unfold tLe at h; rw [Bool.and_eq_true] at h; exact of_decide_eq_true h.1
theorem tDi_lt {T : TT} {k : Nat} (h : tDi T k = true) : k < T.2 := by
  unfold tDi at h; rw [Bool.and_eq_true] at h; exact of_decide_eq_true h.1
theorem tB_le {T : TT} {a : Nat} (h : a ≤ T.2) : tB T a ≤ T.2 := runU_le _ (fun _ => tSp_lt) _ _ h
theorem tE_le {T : TT} {b : Nat} (h : b ≤ T.2) : tE T b ≤ T.2 := by
  unfold tE
  by_cases e : b = T.2
  · rw [decide_eq_true e]; exact h
  · rw [decide_eq_false e, cond_false]
    cases h1 : tLe T b
    · cases h2 : tDi T b
      · show b + 1 ≤ T.2; omega
      · exact runU_le _ (fun _ => tDi_lt) _ _ h
    · exact runU_le _ (fun _ => tLe_lt) _ _ h
theorem tX_le {T : TT} {b : Nat} (h : b ≤ T.2) : tX T b ≤ T.2 := tB_le (tE_le h)
theorem wdV_lt {f : Nat → Nat} : ∀ (l : Nat), (∀ i, i < l → f i ≤ 122) → wdV f l < 32 ^ l
  | 0, _ => Nat.one_pos
  | l + 1, h => by
    have h1 := wdV_lt l (fun i hi => h i (by omega))
    have h2 := h l (by omega)
    rw [wdV, Nat.pow_succ]
    omega
theorem dgV_lt {f : Nat → Nat} : ∀ (l : Nat), (∀ i, i < l → f i ≤ 57) → dgV f l < 10 ^ l
  | 0, _ => Nat.one_pos
  | l + 1, h => by
    have h1 := dgV_lt l (fun i hi => h i (by omega))
    have h2 := h l (by omega)
    rw [dgV, Nat.pow_succ]
    omega
theorem tW_lt {T : TT} {b : Nat} (h : tK T b = 2) : tW T b < 32 ^ 8 := by
  unfold tK at h
  cases h0 : decide (b = T.2) with
  | true => rw [h0] at h; cases h
  | false =>
    rw [h0, cond_false] at h
    cases h1 : tLe T b with
    | false =>
      rw [h1, cond_false] at h
      cases h2 : tDi T b with
      | true => rw [h2, cond_true] at h; split at h <;> cases h
      | false =>
        rw [h2, cond_false] at h
        cases hc : (decide (T.1 b = 59) || decide (T.1 b = 44)) <;> rw [hc] at h <;> cases h
    | true =>
      rw [h1, cond_true] at h
      have hl : rnU (tLe T) b - b ≤ 8 := by
        split at h
        · cases h
        · omega
      have hE : tL T b = rnU (tLe T) b - b := by unfold tL tE; rw [h0, h1]; rfl
      unfold tW
      rw [hE]
      refine Nat.lt_of_lt_of_le (wdV_lt _ (fun i hi => ?_)) (Nat.pow_le_pow_right (by omega) hl)
      have h3 : tLe T (b + i) = true := rnU_in (Nat.le_add_right _ _) (by omega)
      unfold tLe at h3
      simp only [Bool.and_eq_true, decide_eq_true_eq] at h3
      exact h3.2.2
theorem tN3_lt {T : TT} {b : Nat} (h : tK T b = 3) : tN3 T b < 1000 := by
  unfold tK at h
  cases h0 : decide (b = T.2) with
  | true => rw [h0] at h; cases h
  | false =>
    rw [h0, cond_false] at h
    cases h1 : tLe T b with
    | true => rw [h1, cond_true] at h; split at h <;> cases h
    | false =>
      rw [h1, cond_false] at h
      cases h2 : tDi T b with
      | false =>
        rw [h2, cond_false] at h
        cases hc : (decide (T.1 b = 59) || decide (T.1 b = 44)) <;> rw [hc] at h <;> cases h
      | true =>
        rw [h2, cond_true] at h
        have hl : rnU (tDi T) b - b ≤ 3 := by
          split at h
          · cases h
          · omega
        have hE : tL T b = rnU (tDi T) b - b := by unfold tL tE; rw [h0, h1, h2]; rfl
        unfold tN3
        rw [hE]
        refine Nat.lt_of_lt_of_le (dgV_lt _ (fun i hi => ?_)) (Nat.le_trans (Nat.pow_le_pow_right (by omega) hl) (by decide))
        have h3 : tDi T (b + i) = true := rnU_in (Nat.le_add_right _ _) (by omega)
        unfold tDi at h3
        simp only [Bool.and_eq_true, decide_eq_true_eq] at h3
        exact h3.2.2
/-! the reference's own fields of a reading -/
def mT (B : Me) (f : Nat → Int32) (g : Int64) : Me := (fun i r k => cond (Nat.beq i 60 && (Nat.beq r 0 && (Nat.ble 5 k && Nat.ble k 12))) (f k) (B.1 i r k), fun i r k => cond (Nat.beq i 60 && (Nat.beq r 0 && Nat.beq k 13)) g (B.2.1 i r k), B.2.2)
def fU (f : Nat → Int32) (k0 : Nat) (x : Int32) : Nat → Int32 := fun k => cond (Nat.beq k k0) x (f k)
theorem mT_sI {B : Me} {f : Nat → Int32} {g : Int64} {k0 : Nat} {x : Int32} (h1 : 5 ≤ k0) (h2 : k0 ≤ 12) : sI (mT B f g) 60 0 k0 x = mT B (fU f k0 x) g := by
  unfold sI mT up3 fU
  refine Prod.ext ?_ rfl
  funext i r k
  dsimp only
  cases hi : Nat.beq i 60
  · rfl
  · cases hr : Nat.beq r 0
    · cases Nat.beq k k0 <;> rfl
    · cases hk : Nat.beq k k0
      · rfl
      · have e := Nat.beq_eq.mp hk
        subst e
        rw [Nat.ble_eq_true_of_le h1, Nat.ble_eq_true_of_le h2]; rfl
theorem mT_sJ {B : Me} {f : Nat → Int32} {g x : Int64} : sJ (mT B f g) 60 0 13 x = mT B f x := by
  unfold sJ mT up3
  refine Prod.ext rfl (Prod.ext ?_ rfl)
  funext i r k
  dsimp only
  cases hi : Nat.beq i 60
  · rfl
  · cases hr : Nat.beq r 0
    · cases Nat.beq k 13 <;> rfl
    · cases hk : Nat.beq k 13 <;> rfl
theorem mT_mT {B : Me} {f f' : Nat → Int32} {g g' : Int64} : mT (mT B f g) f' g' = mT B f' g' := by
  unfold mT
  refine Prod.ext ?_ (Prod.ext ?_ rfl)
  · funext i r k
    dsimp only
    cases Nat.beq i 60 && (Nat.beq r 0 && (Nat.ble 5 k && Nat.ble k 12)) <;> rfl
  · funext i r k
    dsimp only
    cases Nat.beq i 60 && (Nat.beq r 0 && Nat.beq k 13) <;> rfl
theorem mT_self (B : Me) : mT B (B.1 60 0) (B.2.1 60 0 13) = B := by
  unfold mT
  refine Prod.ext ?_ (Prod.ext ?_ rfl)
  · funext i r k
    dsimp only
    cases hi : Nat.beq i 60
    · rfl
    · cases hr : Nat.beq r 0
      · rfl
      · have e1 := Nat.beq_eq.mp hi
        have e2 := Nat.beq_eq.mp hr
        subst e1; subst e2
        cases Nat.ble 5 k && Nat.ble k 12 <;> rfl
  · funext i r k
    dsimp only
    cases hi : Nat.beq i 60
    · rfl
    · cases hr : Nat.beq r 0
      · rfl
      · cases hk : Nat.beq k 13
        · rfl
        · have e1 := Nat.beq_eq.mp hi
          have e2 := Nat.beq_eq.mp hr
          have e3 := Nat.beq_eq.mp hk
          subst e1; subst e2; subst e3; rfl
/-- where a reading stands: a fault and its place, or at a token -/
abbrev FL : Type := Nat × Nat
def TS (T : TT) (f : Nat → Int32) (g : Int64) : FL ⊕ Nat → Prop
  | .inl q => f 5 = nI T.2 ∧ f 7 = nI q.1 ∧ 1 ≤ q.1 ∧ q.1 < 100 ∧ f 8 = nI q.2
  | .inr b => f 5 = nI T.2 ∧ f 7 = nI 0 ∧ b ≤ T.2 ∧ f 6 = nI (tE T b) ∧ f 9 = nI (tK T b) ∧ f 10 = nI b ∧ (tK T b = 4 → f 11 = nI (T.1 b)) ∧ (tK T b = 3 → f 12 = nI (tN3 T b)) ∧ (tK T b = 2 → g = lN (tW T b))
/-- the tape of the reference -/
def RTt (T : TT) (B : Me) : Prop := T.2 ≤ 700 ∧ (∀ k, k < 700 → B.1 61 0 k = nI (T.1 k)) ∧ ∀ k, T.1 k < 256
def TMe (T : TT) (B : Me) (R : FL ⊕ Nat) (M : Me) : Prop := ∃ f g, M = mT B f g ∧ TS T f g R
