/-! fewest moves, as the class looks for them -/
theorem setK (f : Nat → Bool) (h : ∀ t, 8 ≤ t → f t = false) : ∃ K, K < 256 ∧ ∀ t, t < 32 → bt (nI K) t = f t := by
  obtain ⟨K, hK, e⟩ := isSm_of (x := S32 f) (fun i h1 h2 => by rw [S32_at h2]; exact h i h1)
  exact ⟨K, hK, fun t ht => by rw [← e, S32_at ht]⟩
theorem cs8_cg {f g : Nat → Bool} (h : ∀ t, t < 8 → f t = g t) : cs8 f = cs8 g := sumN_cg fun t ht => by rw [h t ht]
section SQI
variable {S : Nat → Bool} {F : Nat → Nat → Bool} {D : DT} {o : Nat → Nat} {air must : Nat}
/-- a row and the set of those that move in it -/
theorem own_set (hS : ∀ t, S t = true → t < 8 ∧ bt (nI air) t = true) (ho : ∀ t, t < 8 → S t = true → 1 ≤ o t) (ha : air < 256) (hmust : must < 256) (hm : ∀ r, Vr S F D 8 r → ∀ t, t < 8 → bt (nI must) t = true → mvb S o r t = true) {r : Nat → Nat} (hr : Vr S F D 8 r) : ∃ K, K < 256 ∧ K ≤ air ∧ subB K (nI air) = true ∧ subB must (nI K) = true ∧ (∀ t, t < 8 → bt (nI K) t = mvb S o r t) ∧ Vr S (Hd F o (bt (nI K))) D 8 r := by
  obtain ⟨K, hK, e⟩ := setK (mvb S o r) (fun t ht => by
    unfold mvb
    cases h : S t with
    | false => rfl
    | true => have := (hS t h).1; omega)
  have hsub : subB K (nI air) = true := (subB_iff hK).mpr (fun t ht h => by
    have h : bt (nI K) t = true := h
    rw [e t (by omega)] at h
    unfold mvb at h
    rw [Bool.and_eq_true] at h
    exact (hS t h.1).2)
  refine ⟨K, hK, sub_le hK hsub, hsub, (subB_iff hmust).mpr (fun t ht h => ?_), fun t ht => e t (by omega), (Hd_iff ho r).mpr ⟨hr, fun t ht hSt hKt => ?_⟩⟩
  · rw [e t (by omega)]; exact hm r hr t ht h
  · rw [e t (by omega)] at hKt
    unfold mvb at hKt
    rw [hSt, Bool.true_and] at hKt
    simpa using hKt
theorem SqI_next (hS : ∀ t, S t = true → t < 8 ∧ bt (nI air) t = true) (ho : ∀ t, t < 8 → S t = true → 1 ≤ o t) (ha : air < 256) (hmust : must < 256) (hm : ∀ r, Vr S F D 8 r → ∀ t, t < 8 → bt (nI must) t = true → mvb S o r t = true) {c k : Nat} (hk : air < k) {ρ : Nat → Nat} {mv : Nat} (h : SqI S F D o air must c k false ρ mv) : SqI S F D o air must (c + 1) must false ρ mv := by
  obtain ⟨h1, h2, -⟩ := h
  refine ⟨fun r hr => ?_, fun _ K hK hK2 hs1 hs2 _ => ?_, fun e => by cases e⟩
  · have h3 := h1 r hr
    rcases Nat.eq_or_lt_of_le h3 with e | e
    · obtain ⟨K, k1, k2, k3, k4, k5, k6⟩ := own_set hS ho ha hmust hm hr
      exact absurd ⟨r, k6⟩ (h2 rfl K (by omega) k1 k3 k4 (by rw [cs8_cg k5]; exact e.symm))
    · exact e
  · have := sub_le hmust hs2
    omega
theorem SqI_0 (hmust : must < 256) (hm : ∀ r, Vr S F D 8 r → ∀ t, t < 8 → bt (nI must) t = true → mvb S o r t = true) (ρ : Nat → Nat) (mv : Nat) : SqI S F D o air must (cs8 (bt (nI must))) must false ρ mv := by
  refine ⟨fun r hr => (cs8_sub (hm r hr)).1, fun _ K hK hK2 hs1 hs2 _ => ?_, fun e => by cases e⟩
  have := sub_le hmust hs2
  omega
/-- found: the row of the reference -/
theorem SqI_end {n : Nat} {L : Nat → Nat → Bool} {m : Nat} {D' : DT} (hn : n ≤ 8) (hS : ∀ t, S t = true → t < n ∧ bt (nI air) t = true) (ho : ∀ t, t < 8 → S t = true → 1 ≤ o t) (ha : air < 256) (hmust : must < 256) (hm : ∀ r, Vr S F D 8 r → ∀ t, t < 8 → bt (nI must) t = true → mvb S o r t = true) (hV : ∀ r, Vr S F D 8 r ↔ Vr S (Lm L m) D' n r) {c k : Nat} (hk : air < k) {ρ : Nat → Nat} {mv : Nat} (h : SqI S F D o air must c k true ρ mv) : sqO S L D' n o m = some (res S n ρ) ∧ (∀ t, t < 8 → bt (nI mv) t = mvb S o ρ t) := by
  have hS8 : ∀ t, S t = true → t < 8 ∧ bt (nI air) t = true := fun t h => ⟨by have := (hS t h).1; omega, (hS t h).2⟩
  obtain ⟨h1, -, h3⟩ := h
  obtain ⟨⟨m1, m2, m3, m4⟩, hρ, hmin⟩ := h3 rfl
  obtain ⟨hρV, hρo⟩ := (Hd_iff ho ρ).mp hρ
  have hsub : ∀ t, t < 8 → mvb S o ρ t = true → bt (nI mv) t = true := fun t ht hb => by
    unfold mvb at hb
    rw [Bool.and_eq_true] at hb
    cases hK : bt (nI mv) t with
    | true => rfl
    | false =>
      rw [hρo t ht hb.1 hK, decide_eq_true rfl] at hb
      exact absurd hb.2 (by decide)
  obtain ⟨c1, c2⟩ := cs8_sub hsub
  have hcρ : cs8 (mvb S o ρ) = c := by have := h1 ρ hρV; omega
  have hset : ∀ t, t < 8 → bt (nI mv) t = mvb S o ρ t := fun t ht => (c2 (by omega) t ht).symm
  refine ⟨?_, hset⟩
  unfold sqO
  have hres : ∀ r t, S t = true → res S n r t = r t := fun r t hSt => by unfold res; rw [hSt, decide_eq_true (hS t hSt).1]; rfl
  have hcost : ∀ r, cq S o n r = cs8 (mvb S o r) := fun r => by
    unfold cq
    rw [mvC_sum]
    exact cs8_n hn (fun t ht => by
      unfold mvb
      cases h : S t with
      | false => rfl
      | true => have := (hS t h).1; omega)
  have hcr : cs8 (mvb S o (res S n ρ)) = c := by
    rw [← hcρ]
    refine cs8_cg (fun t ht => ?_)
    unfold mvb
    cases h : S t with
    | false => rfl
    | true => rw [hres ρ t h]
  show sqF (cq S o n) none (exX S L D' m n) = _
  refine sqF_is exX_lx (fun r _ => by rw [hcost]; have := cs8_le (mvb S o r); omega) (exX_mem.mpr ⟨fun t ht hSt => ?_, fun t ht => ?_⟩) (fun r' hr' => ?_)
  · obtain ⟨a1, a2⟩ := (hV ρ).mp hρV t ht hSt
    rw [hres ρ t hSt]
    exact ⟨a1, fun u hu hSu => by rw [hres ρ u hSu]; exact a2 u hu hSu⟩
  · unfold res
    cases h : S t with
    | false => rfl
    | true => rw [decide_eq_false (fun q => ht ⟨h, q⟩)]; rfl
  · obtain ⟨v1, v2⟩ := exX_mem.mp hr'
    have v1 := (hV r').mpr v1
    have hge := h1 r' v1
    rw [hcost, hcost, hcr]
    refine ⟨hge, fun e => ?_⟩
    obtain ⟨K, k1, k2, k3, k4, k5, k6⟩ := own_set hS8 ho ha hmust hm v1
    rcases hmin K (by omega) k1 k3 k4 (by rw [cs8_cg k5]; exact e) r' k6 with q | ⟨s, s1, s2, s3, s4⟩
    · left
      funext t
      cases h : S t with
      | false =>
        rw [v2 t (fun z => by rw [z.1] at h; cases h)]
        unfold res; rw [h]; rfl
      | true => rw [hres ρ t h, q t (hS8 t h).1 h]
    · right
      refine ⟨s, (hS s s2).1, fun t ht => ?_, by rw [hres ρ s s2]; exact s4⟩
      cases h : S t with
      | false =>
        rw [v2 t (fun z => by rw [z.1] at h; cases h)]
        unfold res; rw [h]; rfl
      | true => rw [hres ρ t h, s3 t ht h]
/-- one set further -/
theorem SqI_skip {c k : Nat} {b : Bool} {ρ : Nat → Nat} {mv : Nat} (h : SqI S F D o air must c k b ρ mv) (hk : subB k (nI air) = true → subB must (nI k) = true → cs8 (bt (nI k)) = c → k < 256 → (b = false → ¬ ∃ r, Vr S (Hd F o (bt (nI k))) D 8 r) ∧ (b = true → ∀ r, Vr S (Hd F o (bt (nI k))) D 8 r → (∀ t, t < 8 → S t = true → r t = ρ t) ∨ ∃ s, s < 8 ∧ S s = true ∧ (∀ t, t < s → S t = true → r t = ρ t) ∧ ρ s < r s)) : SqI S F D o air must c (k + 1) b ρ mv := by
  obtain ⟨h1, h2, h3⟩ := h
  refine ⟨h1, fun e K q1 q2 q3 q4 q5 => ?_, fun e => ?_⟩
  · by_cases w : K = k
    · subst w; exact (hk q3 q4 q5 q2).1 e
    · exact h2 e K (by omega) q2 q3 q4 q5
  · obtain ⟨⟨m1, m2, m3, m4⟩, g2, g3⟩ := h3 e
    refine ⟨⟨by omega, m2, m3, m4⟩, g2, fun K q1 q2 q3 q4 q5 => ?_⟩
    by_cases w : K = k
    · subst w; exact (hk q3 q4 q5 q2).2 e
    · exact g3 K (by omega) q2 q3 q4 q5
theorem SqI_take {c k : Nat} {b : Bool} {ρ ρ' : Nat → Nat} {mv : Nat} (h : SqI S F D o air must c k b ρ mv) (hk : k < 256) (hs : subB k (nI air) = true) (hc : cs8 (bt (nI k)) = c) (hF : Fst S (Hd F o (bt (nI k))) D 8 ρ') (hb : b = true → ∃ s, s < 8 ∧ S s = true ∧ (∀ t, t < s → S t = true → ρ t = ρ' t) ∧ ρ' s < ρ s) : SqI S F D o air must c (k + 1) true ρ' k := by
  obtain ⟨h1, h2, h3⟩ := h
  refine ⟨h1, fun e => (by cases e), fun _ => ⟨⟨by omega, hk, hs, hc⟩, hF.1, fun K q1 q2 q3 q4 q5 r hr => ?_⟩⟩
  by_cases w : K = k
  · subst w; exact hF.2 r hr
  · cases b with
    | false => exact absurd ⟨r, hr⟩ (h2 rfl K (by omega) q2 q3 q4 q5)
    | true =>
      obtain ⟨s, s1, s2, s3, s4⟩ := hb rfl
      right
      rcases (h3 rfl).2.2 K (by omega) q2 q3 q4 q5 r hr with e | ⟨u, u1, u2, u3, u4⟩
      · exact ⟨s, s1, s2, fun t ht hSt => by rw [e t (by omega) hSt, s3 t ht hSt], by rw [e s s1 s2]; exact s4⟩
      · rcases Nat.lt_trichotomy s u with v | v | v
        · exact ⟨s, s1, s2, fun t ht hSt => by rw [u3 t (by omega) hSt, s3 t ht hSt], by rw [u3 s v s2]; exact s4⟩
        · subst v; exact ⟨s, s1, s2, fun t ht hSt => by rw [u3 t ht hSt, s3 t ht hSt], by omega⟩
        · exact ⟨u, u1, u2, fun t ht hSt => by rw [u3 t ht hSt, s3 t (by omega) hSt], by rw [← s3 u v u2]; exact u4⟩
end SQI
