/-! fits, rows, proofs: class and reference are the same, in mathematics -/
theorem okC_D {S : Nat → Bool} {L : Nat → Nat → Bool} {D D' : DT} {s c : Nat} {ρ : Nat → Nat} (h : ∀ t, t < s → S t = true → ∀ e, D s c t e = D' s c t e) : okC S L D s c ρ = okC S L D' s c ρ := by
  unfold okC
  rw [all_cg s (fun t ht => ?_)]
  cases hS : S t
  · rfl
  · rw [h t ht hS]
theorem ext_D {S : Nat → Bool} {L : Nat → Nat → Bool} {D D' : DT} {m n : Nat} (h : ∀ s t, t < s → s < n → S s = true → S t = true → ∀ c e, D s c t e = D' s c t e) : ∀ (k s : Nat) (ρ : Nat → Nat), s + k = n → ext S L D m k s ρ = ext S L D' m k s ρ
  | 0, _, _, _ => rfl
  | k + 1, s, ρ, hn => by
    rw [ext, ext]
    cases hS : S s
    · rw [cond_false, cond_false, ext_D h k (s + 1) ρ (by omega)]
    · rw [cond_true, cond_true]
      congr 1
      funext c
      rw [okC_D (D' := D') (fun t ht hSt e => h s t ht (by omega) hS hSt _ e), ext_D h k (s + 1) _ (by omega)]
theorem DD_B {B : Me} (h8 : sN B ≤ 8) {s t : Nat} (ht : t < s) (hs : s < sN B) (c e : Nat) : DD (clC B) (brC B) s c t e = aDist B s c t e := by
  unfold DD clC brC aDist
  rw [S32_at (by omega), S32_at (by omega)]
  unfold clS brS
  rw [decide_eq_true hs, decide_eq_true (show t < sN B by omega), decide_eq_false (show ¬ t = s by omega)]
  rfl
theorem aX_D {B : Me} (h8 : sN B ≤ 8) (set : Int32) (m : Nat) : aX B set m = exX (bt set) (aLst B) (DD (clC B) (brC B)) m (sN B) := by
  rw [aX_eq]
  unfold exX exr
  rw [ext_D (D' := DD (clC B) (brC B)) (fun s t ht hs _ _ c e => (DD_B h8 ht hs c e).symm) (sN B) 0 _ (Nat.zero_add _)]
theorem stL_ex {S : Nat → Bool} : ∀ (k s j : Nat), (∀ t, s + k ≤ t → S t = false) → stL S (k + j) s = stL S k s
  | 0, s, j, h => by
    rw [Nat.zero_add]
    refine List.eq_nil_iff_forall_not_mem.mpr (fun a ha => ?_)
    have := (stL_mem j s a).mp ha
    rw [h a (by omega)] at this
    exact absurd this.2.2 (by decide)
  | k + 1, s, j, h => by
    rw [show k + 1 + j = (k + j) + 1 by omega, stL, stL, stL_ex k (s + 1) j (fun t ht => h t (by omega))]
theorem aX_len {B : Me} (h8 : sN B ≤ 8) {set : Int32} (hset : ∀ t, bt set t = true → t < sN B) {m : Nat} (hm : m ≤ 10) : (aX B set m).length = cnt (DD (clC B) (brC B)) (stL (bt set) 8 0) (Lm (aLst B) m) := by
  rw [aX_D h8, exX_cnt (DD_sy B h8) hm]
  have := stL_ex (S := bt set) (sN B) 0 (8 - sN B) (fun t ht => by
    cases hb : bt set t with
    | false => rfl
    | true => have := hset t hb; omega)
  rw [show sN B + (8 - sN B) = 8 by omega] at this
  rw [this]
/-- the first row settled is the first row -/
theorem Fst_head {B : Me} (h8 : sN B ≤ 8) {set : Int32} (hset : ∀ t, bt set t = true → t < sN B) {m : Nat} {F : Nat → Nat → Bool} (hF : ∀ t, t < 8 → bt set t = true → ∀ i, F t i = Lm (aLst B) m t i) {ρ : Nat → Nat} (h : Fst (bt set) F (DD (clC B) (brC B)) 8 ρ) : (aX B set m).head? = some (res (bt set) (sN B) ρ) := by
  rw [aX_eq]
  have hres : ∀ t, bt set t = true → res (bt set) (sN B) ρ t = ρ t := fun t hS => by unfold res; rw [hS, decide_eq_true (hset t hS)]; rfl
  have hv : ∀ r, Vr (bt set) F (DD (clC B) (brC B)) 8 r ↔ Vr (bt set) (Lm (aLst B) m) (aDist B) (sN B) r := fun r =>
    ⟨fun q => (Vr_B h8 hset).mp (Vr_cg (fun _ _ => rfl) hF q), fun q => Vr_cg (fun _ _ => rfl) (fun t ht hS i => (hF t ht hS i).symm) ((Vr_B h8 hset).mpr q)⟩
  refine exX_head (exX_mem.mpr ⟨fun t ht hS => ?_, fun t ht => ?_⟩) (fun r' hr' => ?_)
  · obtain ⟨a1, a2⟩ := (hv ρ).mp h.1 t ht hS
    rw [hres t hS]
    exact ⟨a1, fun u hu hSu => by rw [hres u hSu]; exact a2 u hu hSu⟩
  · unfold res
    cases hS : bt set t with
    | false => rfl
    | true => rw [decide_eq_false (fun q => ht ⟨hS, q⟩)]; rfl
  · obtain ⟨v1, v2⟩ := exX_mem.mp hr'
    rcases h.2 r' ((hv r').mpr v1) with q | ⟨s, s1, s2, s3, s4⟩
    · left
      funext t
      cases hS : bt set t with
      | false =>
        rw [v2 t (fun z => by rw [z.1] at hS; cases hS)]
        unfold res; rw [hS]; rfl
      | true => rw [hres t hS, q t (by have := hset t hS; omega) hS]
    · right
      refine ⟨s, hset s s2, fun t ht => ?_, by rw [hres s s2]; exact s4⟩
      cases hS : bt set t with
      | false =>
        rw [v2 t (fun z => by rw [z.1] at hS; cases hS)]
        unfold res; rw [hS]; rfl
      | true => rw [hres t hS, s3 t ht hS]
theorem no_head {B : Me} {set : Int32} {m : Nat} (h : ¬ ∃ r, Vr (bt set) (Lm (aLst B) m) (aDist B) (sN B) r) : (aX B set m).head? = none := by
  cases hX : aX B set m with
  | nil => rfl
  | cons a X =>
    rw [aX_eq] at hX
    exact absurd ⟨a, (exX_mem.mp (by rw [hX]; exact List.mem_cons_self)).1⟩ h
/-! sets and parts of them -/
theorem subB_iff {k : Nat} {x : Int32} (hk : k < 256) : subB k x = true ↔ ∀ t, t < 8 → (nI k |> bt) t = true → bt x t = true := by
  unfold subB
  rw [decide_eq_true_iff]
  constructor
  · intro h t ht hb
    have h1 := congrArg (fun y => bt y t) h
    simp only [b_and, b_not (show t < 32 by omega), b_0] at h1
    rw [show bt (nI k) t = true from hb] at h1
    simpa using h1
  · intro h
    apply b_ext
    intro i hi
    rw [b_and, b_not hi, b_0]
    cases hb : bt (nI k) i with
    | false => rfl
    | true =>
      rcases Nat.lt_or_ge i 8 with e | e
      · rw [h i e hb]; rfl
      · rw [isSm_bt ⟨k, hk, rfl⟩ e] at hb; cases hb
theorem aBits_sum (x : Int32) : ∀ n, aBits x n = nI (sumN (fun i => bif bt x i then 1 else 0) n)
  | 0 => rfl
  | n + 1 => by
    rw [aBits, aBits_sum x n, sumN, ← nI_s8]
    congr 1
    cases bt x n <;> rfl
theorem sum_sub {f g : Nat → Bool} : ∀ (n : Nat), (∀ i, i < n → f i = true → g i = true) → sumN (fun i => bif f i then 1 else 0) n ≤ sumN (fun i => bif g i then 1 else 0) n ∧ ((∃ i, i < n ∧ f i = false ∧ g i = true) → sumN (fun i => bif f i then 1 else 0) n < sumN (fun i => bif g i then 1 else 0) n)
  | 0, _ => ⟨Nat.le_refl _, fun ⟨i, h, _⟩ => absurd h (Nat.not_lt_zero _)⟩
  | n + 1, h => by
    obtain ⟨i1, i2⟩ := sum_sub n (fun i hi => h i (by omega))
    rw [sumN, sumN]
    have hn := h n (by omega)
    refine ⟨?_, fun ⟨i, hi, hf, hg⟩ => ?_⟩
    · cases hf : f n with
      | false => simp only [cond_false]; omega
      | true => rw [hn hf]; simp only [cond_true]; omega
    · by_cases e : i = n
      · subst e
        rw [hf, hg]; simp only [cond_true, cond_false]; omega
      · have := i2 ⟨i, by omega, hf, hg⟩
        cases hf2 : f n with
        | false => simp only [cond_false]; omega
        | true => rw [hn hf2]; simp only [cond_true]; omega
theorem bits_lt {k x : Nat} (hk : k < x) (hx : x < 256) (h : subB k (nI x) = true) : aBits (nI k) 16 < aBits (nI x) 16 := by
  have hs := (subB_iff (show k < 256 by omega)).mp h
  have hsub : ∀ i, i < 16 → bt (nI k) i = true → bt (nI x) i = true := fun i hi hb => by
    rcases Nat.lt_or_ge i 8 with e | e
    · exact hs i e hb
    · rw [isSm_bt ⟨k, by omega, rfl⟩ e] at hb; cases hb
  obtain ⟨h1, h2⟩ := sum_sub 16 hsub
  have hex : ∃ i, i < 16 ∧ bt (nI k) i = false ∧ bt (nI x) i = true := by
    refine Classical.byContradiction fun q => ?_
    have : nI k = nI x := by
      apply b_ext
      intro i hi
      cases hb : bt (nI k) i with
      | true =>
        rcases Nat.lt_or_ge i 16 with e | e
        · exact (hsub i e hb).symm
        · rw [isSm_bt ⟨k, by omega, rfl⟩ (by omega)] at hb; cases hb
      | false =>
        cases hb2 : bt (nI x) i with
        | false => rfl
        | true =>
          rcases Nat.lt_or_ge i 16 with e | e
          · exact absurd ⟨i, e, hb, hb2⟩ q
          · rw [isSm_bt ⟨x, hx, rfl⟩ (by omega)] at hb2; cases hb2
    have := (nI_eq (by omega) (by omega)).mp this
    omega
  have h3 := h2 hex
  rw [aBits_sum, aBits_sum]
  have u1 := sum10 (bt (nI k)) 16
  have u2 := sum10 (bt (nI x)) 16
  exact (nI_ltI (by omega) (by omega)).mpr h3
theorem aFit_sub {B : Me} {k x : Nat} (hk : k < 256) (hxs : sN B ≤ 8) (h : subB k (nI x) = true) {m : Nat} (hf : aFit B (nI x) m = true) : aFit B (nI k) m = true := by
  obtain ⟨r, hr⟩ := aFit_ex.mp hf
  have hs := (subB_iff hk).mp h
  exact aFit_ex.mpr ⟨r, fun t ht hS => by
    obtain ⟨a1, a2⟩ := hr t ht (hs t (by omega) hS)
    exact ⟨a1, fun u hu hSu => a2 u hu (hs u (by omega) hSu)⟩⟩
theorem aFit_0 (B : Me) (m : Nat) : aFit B (nI 0) m = true := aFit_ex.mpr ⟨fun _ => 0, fun t ht hS => by rw [b_0] at hS; cases hS⟩
/-- the least part that doesn't pack, as the class looks for it -/
def lnp (B : Me) (x m k : Nat) : Option Nat := chp (fun k => decide (1 ≤ k) && subB k (nI x)) (fun k => !aFit B (nI k) m) (fun k => aBits (nI k) 16) k
def lnpF (x : Nat) (o : Option Nat) : Nat := o.getD x
theorem lnp_step {B : Me} {x m k : Nat} (hk : 1 ≤ k) (hkx : k < x) (hx : x < 256) : lnpF x (lnp B x m (k + 1)) = bif subB k (nI x) && (decide (aBits (nI k) 16 < aBits (nI (lnpF x (lnp B x m k))) 16) && !aFit B (nI k) m) then k else lnpF x (lnp B x m k) := by
  unfold lnp
  rw [chp]
  cases hc : chp (fun k => decide (1 ≤ k) && subB k (nI x)) (fun k => !aFit B (nI k) m) (fun k => aBits (nI k) 16) k with
  | none =>
    dsimp only
    rw [decide_eq_true hk, Bool.true_and]
    show lnpF x _ = bif subB k (nI x) && (decide (aBits (nI k) 16 < aBits (nI x) 16) && !aFit B (nI k) m) then k else x
    cases hs : subB k (nI x) with
    | false => rfl
    | true =>
      rw [decide_eq_true (bits_lt hkx hx hs)]
      cases aFit B (nI k) m <;> rfl
  | some b =>
    dsimp only
    rw [decide_eq_true hk, Bool.true_and]
    show lnpF x _ = bif subB k (nI x) && (decide (aBits (nI k) 16 < aBits (nI b) 16) && !aFit B (nI k) m) then k else b
    cases (subB k (nI x) && (decide (aBits (nI k) 16 < aBits (nI b) 16) && !aFit B (nI k) m)) <;> rfl
theorem lnp_1 (B : Me) (x m : Nat) : lnp B x m 1 = none := rfl
theorem lnp_end {B : Me} {x m : Nat} (hx1 : 1 ≤ x) (hx : x < 256) (hf : aFit B (nI x) m = false) : lnp B x m (x + 1) = some (lnpF x (lnp B x m x)) := by
  have hsx : subB x (nI x) = true := (subB_iff hx).mpr (fun t _ h => h)
  unfold lnp
  rw [chp]
  cases hc : chp (fun k => decide (1 ≤ k) && subB k (nI x)) (fun k => !aFit B (nI k) m) (fun k => aBits (nI k) 16) x with
  | none =>
    dsimp only
    rw [decide_eq_true hx1, hsx, hf]; rfl
  | some b =>
    dsimp only
    have hb := chp_lt x b hc
    have hbs : subB b (nI x) = true := by
      have : ∀ n, chp (fun k => decide (1 ≤ k) && subB k (nI x)) (fun k => !aFit B (nI k) m) (fun k => aBits (nI k) 16) n = some b → subB b (nI x) = true := by
        intro n
        induction n with
        | zero => intro h; cases h
        | succ n ih =>
          intro h
          rw [chp] at h
          cases hq : chp (fun k => decide (1 ≤ k) && subB k (nI x)) (fun k => !aFit B (nI k) m) (fun k => aBits (nI k) 16) n with
          | none =>
            rw [hq] at h
            dsimp only at h
            cases e : ((decide (1 ≤ n) && subB n (nI x)) && !aFit B (nI n) m) with
            | false => rw [e] at h; cases h
            | true =>
              rw [e] at h; cases h
              simp only [Bool.and_eq_true] at e
              exact e.1.2
          | some b' =>
            rw [hq] at h
            dsimp only at h
            cases e : ((decide (1 ≤ n) && subB n (nI x)) && (decide (aBits (nI n) 16 < aBits (nI b') 16) && !aFit B (nI n) m)) with
            | false => rw [e] at h; cases h; exact ih hq
            | true =>
              rw [e] at h; cases h
              simp only [Bool.and_eq_true] at e
              exact e.1.2
      exact this x hc
    have hlt := bits_lt hb hx hbs
    rw [decide_eq_false (Int32.not_lt.mpr (Int32.le_of_lt hlt)), Bool.false_and, Bool.and_false]
    rfl
theorem lnp_none {B : Me} {x m : Nat} (h8 : sN B ≤ 8) (hx : x < 256) (hf : aFit B (nI x) m = true) : ∀ k, k ≤ x + 1 → lnp B x m k = none
  | 0, _ => rfl
  | k + 1, hk => by
    unfold lnp
    rw [chp]
    have ih := lnp_none h8 hx hf k (by omega)
    unfold lnp at ih
    rw [ih]
    dsimp only
    cases hs : subB k (nI x) with
    | false => rw [Bool.and_false]; rfl
    | true => rw [aFit_sub (by omega) h8 hs hf]; simp
/-- one channel alone for a station -/
theorem could_iff {B : Me} (h8 : sN B ≤ 8) {set : Int32} (hset : ∀ t, bt set t = true → t < sN B) {m s c : Nat} (hm : m ≤ 10) (hs : s < sN B) (hc1 : 1 ≤ c) (hc : c ≤ m) (hl : aLst B s (c - 1) = true) {F : Nat → Nat → Bool} (hF : ∀ t, t < 8 → bt set t = true → ∀ i, F t i = (Lm (aLst B) m t i && (!decide (t = s) || decide (i = c - 1)))) : (∃ r, Vr (bt set) F (DD (clC B) (brC B)) 8 r) ↔ aFit (Mc B s c) set m = true := by
  rw [aFit_ex]
  have eD : aDist (Mc B s c) = aDist B := rfl
  have eN : sN (Mc B s c) = sN B := rfl
  rw [eD, eN]
  have e1 : ∀ t, t < 8 → bt set t = true → ∀ i, F t i = Lm (aLst (Mc B s c)) m t i := by
    intro t ht hS i
    rw [hF t ht hS i]
    unfold Lm
    by_cases e : t = s
    · subst e
      rw [decide_eq_true rfl, Bool.not_true, Bool.false_or]
      have hb : (Mc B t c).1 65 0 (16 + t) = b1 (c - 1) ^^^ -(nI 1) := by
        show up3 B.1 65 0 (16 + t) _ 65 0 (16 + t) = _
        rw [up3_same]
      rcases Nat.lt_or_ge i 32 with hi | hi
      · rw [aLst_op (M := Mc B t c) hs i, hb, b_not hi, b1_at (by omega) hi, Bool.not_not]
        by_cases ei : i = c - 1
        · subst ei
          rw [hl, decide_eq_true rfl]
          rw [aLst_op hs, Bool.and_eq_true] at hl
          rw [show opS (Mc B t c) t (c - 1) = true from hl.1]
          simp
        · rw [decide_eq_false ei]
          simp
      · rw [decide_eq_false (show ¬ i < m by omega)]
        simp
    · rw [decide_eq_false e, Bool.not_false, Bool.true_or, Bool.and_true]
      have hb : (Mc B s c).1 65 0 (16 + t) = B.1 65 0 (16 + t) := by
        show up3 B.1 65 0 (16 + s) _ 65 0 (16 + t) = _
        rw [up3_ne (by omega)]
      have : aLst (Mc B s c) t i = aLst B t i := by
        have ht' := hset t hS
        rw [aLst_op (M := Mc B s c) ht' i, aLst_op ht' i, hb]; rfl
      rw [this]
  constructor
  · rintro ⟨r, hr⟩
    exact ⟨r, (Vr_B h8 hset).mp (Vr_cg (fun _ _ => rfl) e1 hr)⟩
  · rintro ⟨r, hr⟩
    exact ⟨r, Vr_cg (fun _ _ => rfl) (fun t ht hS i => (e1 t ht hS i).symm) ((Vr_B h8 hset).mpr hr)⟩
