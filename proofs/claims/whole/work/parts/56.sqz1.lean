/-! fewest moves, in mathematics -/
theorem sqF_spec {c : (Nat → Nat) → Nat} {n : Nat} : ∀ (X : List (Nat → Nat)) (b : Option (Nat → Nat)), X.Pairwise (lxL n) → (∀ r, r ∈ X → c r < 9) → (∀ r0, b = some r0 → ∀ r, r ∈ X → lxL n r0 r) → (b = none → X ≠ []) → (∀ r0, b = some r0 → c r0 < 9) → ∃ r, sqF c b X = some r ∧ (r ∈ X ∨ b = some r) ∧ (∀ r', (r' ∈ X ∨ b = some r') → c r ≤ c r' ∧ (c r' = c r → r' = r ∨ lxL n r r'))
  | [], b, _, _, _, hne, _ => by
    cases b with
    | none => exact absurd rfl (hne rfl)
    | some r0 =>
      refine ⟨r0, rfl, Or.inr rfl, fun r' hr' => ?_⟩
      rcases hr' with q | q
      · cases q
      · cases q; exact ⟨Nat.le_refl _, fun _ => Or.inl rfl⟩
  | a :: X, b, hp, h9, hb, _, hb9 => by
    rw [sqF]
    obtain ⟨hp1, hp2⟩ := List.pairwise_cons.mp hp
    by_cases hlt : c a < lst c b
    · rw [decide_eq_true hlt, cond_true]
      obtain ⟨r, h1, h2, h3⟩ := sqF_spec X (some a) hp2 (fun r hr => h9 r (List.mem_cons_of_mem _ hr)) (fun r0 e r hr => by cases e; exact hp1 r hr) (fun e => by cases e) (fun r0 e => by cases e; exact h9 a List.mem_cons_self)
      refine ⟨r, h1, ?_, fun r' hr' => ?_⟩
      · rcases h2 with q | q
        · exact Or.inl (List.mem_cons_of_mem _ q)
        · cases q; exact Or.inl List.mem_cons_self
      · rcases hr' with q | q
        · rcases List.mem_cons.mp q with e | e
          · subst e; exact h3 r' (Or.inr rfl)
          · exact h3 r' (Or.inl e)
        · subst q
          have ha := (h3 a (Or.inr rfl)).1
          have hl : lst c (some r') = c r' := rfl
          rw [hl] at hlt
          exact ⟨by omega, fun e => absurd e (by omega)⟩
    · rw [decide_eq_false hlt, cond_false]
      cases b with
      | none =>
        have := h9 a List.mem_cons_self
        exact absurd this (by have : lst c none = 9 := rfl; omega)
      | some r0 =>
        obtain ⟨r, h1, h2, h3⟩ := sqF_spec X (some r0) hp2 (fun r hr => h9 r (List.mem_cons_of_mem _ hr)) (fun r1 e r hr => hb r1 e r (List.mem_cons_of_mem _ hr)) (fun e => by cases e) hb9
        refine ⟨r, h1, ?_, fun r' hr' => ?_⟩
        · rcases h2 with q | q
          · exact Or.inl (List.mem_cons_of_mem _ q)
          · exact Or.inr q
        · rcases hr' with q | q
          · rcases List.mem_cons.mp q with e | e
            · subst e
              obtain ⟨k1, k2⟩ := h3 r0 (Or.inr rfl)
              have hl : lst c (some r0) = c r0 := rfl
              rw [hl] at hlt
              have hlx := hb r0 rfl r' List.mem_cons_self
              refine ⟨by omega, fun e => ?_⟩
              rcases k2 (by omega) with e2 | e2
              · subst e2; exact Or.inr hlx
              · right
                obtain ⟨s, s1, s2, s3⟩ := e2
                obtain ⟨t, t1, t2, t3⟩ := hlx
                rcases Nat.lt_trichotomy s t with w | w | w
                · exact ⟨s, s1, fun u hu => by rw [s2 u hu, t2 u (by omega)], by rw [← t2 s w]; exact s3⟩
                · subst w; exact ⟨s, s1, fun u hu => by rw [s2 u hu, t2 u hu], by omega⟩
                · exact ⟨t, t1, fun u hu => by rw [s2 u (by omega), t2 u hu], by rw [s2 t w]; exact t3⟩
            · exact h3 r' (Or.inl e)
          · exact h3 r' (Or.inr q)
/-- who is the first of fewest moves -/
theorem sqF_is {c : (Nat → Nat) → Nat} {n : Nat} {X : List (Nat → Nat)} (hp : X.Pairwise (lxL n)) (h9 : ∀ r, r ∈ X → c r < 9) {r : Nat → Nat} (hr : r ∈ X) (hm : ∀ r', r' ∈ X → c r ≤ c r' ∧ (c r' = c r → r' = r ∨ lxL n r r')) : sqF c none X = some r := by
  obtain ⟨r1, h1, h2, h3⟩ := sqF_spec X none hp h9 (fun r0 e => by cases e) (fun _ e => by rw [e] at hr; cases hr) (fun r0 e => by cases e)
  rcases h2 with q | q
  · obtain ⟨a1, a2⟩ := h3 r (Or.inl hr)
    obtain ⟨b1, b2⟩ := hm r1 q
    rcases a2 (by omega) with e | e
    · rw [h1, e]
    · rcases b2 (by omega) with e2 | e2
      · rw [h1, e2]
      · exact (lx_asym e e2).elim
  · cases q
theorem sqF_nil (c : (Nat → Nat) → Nat) : sqF c none [] = none := rfl
/-! moves as a set -/
def mvb (S : Nat → Bool) (o r : Nat → Nat) (t : Nat) : Bool := S t && !decide (r t = o t)
theorem mvC_sum (S : Nat → Bool) (o r : Nat → Nat) : ∀ n, mvC S o r n = sumN (fun t => bif mvb S o r t then 1 else 0) n
  | 0 => rfl
  | n + 1 => by rw [mvC, mvC_sum S o r n, sumN]; rfl
def cs8 (f : Nat → Bool) : Nat := sumN (fun t => bif f t then 1 else 0) 8
theorem cs8_le (f : Nat → Bool) : cs8 f ≤ 8 := sum10 f 8
theorem cs8_n {f : Nat → Bool} {n : Nat} (hn : n ≤ 8) (h : ∀ t, n ≤ t → f t = false) : sumN (fun t => bif f t then 1 else 0) n = cs8 f := by
  unfold cs8
  have := sumN_ex (f := fun t => bif f t then 1 else 0) (m := n) (fun i hi => by rw [h i hi]; rfl) (8 - n)
  rw [show n + (8 - n) = 8 by omega] at this
  exact this.symm
theorem cs8_sub {f g : Nat → Bool} (h : ∀ t, t < 8 → f t = true → g t = true) : cs8 f ≤ cs8 g ∧ (cs8 f = cs8 g → ∀ t, t < 8 → f t = g t) := by
  obtain ⟨h1, h2⟩ := sum_sub (f := f) (g := g) 8 h
  refine ⟨h1, fun e t ht => ?_⟩
  cases hf : f t with
  | true => exact (h t ht hf).symm
  | false =>
    cases hg : g t with
    | false => rfl
    | true =>
      have := h2 ⟨t, ht, hf, hg⟩
      unfold cs8 at e
      omega
theorem bits8 {x : Int32} (hx : isSm x) : aBits x 16 = nI (cs8 (bt x)) := by
  rw [aBits_sum]
  have := sumN_ex (f := fun t => bif bt x t then 1 else 0) (m := 8) (fun i hi => by rw [isSm_bt hx hi]; rfl) 8
  rw [show 8 + 8 = 16 from rfl] at this
  rw [this]; rfl
theorem sub_le {k a : Nat} (hk : k < 256) (h : subB k (nI a) = true) : k ≤ a := by
  have hs := (subB_iff hk).mp h
  have e : k = k &&& a := by
    refine Nat.eq_of_testBit_eq (fun i => ?_)
    rw [Nat.testBit_and]
    cases hb : k.testBit i with
    | false => rfl
    | true =>
      rcases Nat.lt_or_ge i 8 with q | q
      · have hb2 := hs i q (by rw [show (nI k |> bt) i = bt (nI k) i from rfl, b_nI _ (by omega)]; exact hb)
        rw [b_nI _ (by omega)] at hb2
        rw [hb2]; rfl
      · rw [Nat.testBit_lt_two_pow (Nat.lt_of_lt_of_le hk (Nat.pow_le_pow_right (n := 2) (i := 8) (by omega) q))] at hb
        cases hb
  rw [e]
  exact Nat.and_le_right
/-- the rows in which those keep their channels who are not of a set -/
def Hd (F : Nat → Nat → Bool) (o : Nat → Nat) (K : Nat → Bool) : Nat → Nat → Bool := fun t i => F t i && (K t || decide (i = o t - 1))
theorem Hd_iff {S : Nat → Bool} {F : Nat → Nat → Bool} {D : DT} {o : Nat → Nat} {K : Nat → Bool} {n : Nat} (ho : ∀ t, t < n → S t = true → 1 ≤ o t) (r : Nat → Nat) : Vr S (Hd F o K) D n r ↔ Vr S F D n r ∧ ∀ t, t < n → S t = true → K t = false → r t = o t := by
  constructor
  · intro h
    refine ⟨fun t ht hS => ?_, fun t ht hS hK => ?_⟩
    · obtain ⟨⟨a1, a2⟩, a3⟩ := h t ht hS
      unfold Hd at a2
      rw [Bool.and_eq_true] at a2
      exact ⟨⟨a1, a2.1⟩, a3⟩
    · obtain ⟨⟨a1, a2⟩, -⟩ := h t ht hS
      unfold Hd at a2
      rw [hK, Bool.false_or, Bool.and_eq_true, decide_eq_true_eq] at a2
      have := ho t ht hS
      omega
  · rintro ⟨h1, h2⟩ t ht hS
    obtain ⟨⟨a1, a2⟩, a3⟩ := h1 t ht hS
    refine ⟨⟨a1, ?_⟩, a3⟩
    unfold Hd
    rw [a2]
    cases hK : K t with
    | true => rfl
    | false => rw [h2 t ht hS hK, decide_eq_true rfl]; rfl
/-- what the class has found: none yet by fewer than c moves; of those with c moves, all within a set below k, the first -/
def SqI (S : Nat → Bool) (F : Nat → Nat → Bool) (D : DT) (o : Nat → Nat) (air must c k : Nat) (b : Bool) (ρ : Nat → Nat) (mv : Nat) : Prop :=
  (∀ r, Vr S F D 8 r → c ≤ cs8 (mvb S o r)) ∧ (b = false → ∀ K, K < k → K < 256 → subB K (nI air) = true → subB must (nI K) = true → cs8 (bt (nI K)) = c → ¬ ∃ r, Vr S (Hd F o (bt (nI K))) D 8 r) ∧ (b = true → (mv < k ∧ mv < 256 ∧ subB mv (nI air) = true ∧ cs8 (bt (nI mv)) = c) ∧ Vr S (Hd F o (bt (nI mv))) D 8 ρ ∧ ∀ K, K < k → K < 256 → subB K (nI air) = true → subB must (nI K) = true → cs8 (bt (nI K)) = c → ∀ r, Vr S (Hd F o (bt (nI K))) D 8 r → (∀ t, t < 8 → S t = true → r t = ρ t) ∨ ∃ s, s < 8 ∧ S s = true ∧ (∀ t, t < s → S t = true → r t = ρ t) ∧ ρ s < r s)
