/-! rows, in mathematics: which they are, their order, how many -/
abbrev DT : Type := Nat → Nat → Nat → Nat → Bool
def Vr (S : Nat → Bool) (F : Nat → Nat → Bool) (D : DT) (n : Nat) (r : Nat → Nat) : Prop := ∀ t, t < n → S t = true → (1 ≤ r t ∧ F t (r t - 1) = true) ∧ ∀ u, u < t → S u = true → D t (r t) u (r u) = false
def exX (S : Nat → Bool) (L : Nat → Nat → Bool) (D : DT) (m n : Nat) : List (Nat → Nat) := exr S L D m n n 0 (fun _ => 0)
def Lm (L : Nat → Nat → Bool) (m : Nat) : Nat → Nat → Bool := fun t i => L t i && decide (i < m)
theorem ext_in {S : Nat → Bool} {L : Nat → Nat → Bool} {D : DT} {m : Nat} : ∀ (k s : Nat) (ρ r : Nat → Nat), (∀ t, t < s → r t = ρ t) → (∀ t, S t = false → r t = ρ t) → (∀ t, s + k ≤ t → r t = ρ t) → (∀ t, s ≤ t → t < s + k → S t = true → 1 ≤ r t ∧ r t ≤ m ∧ okC S L D t (r t) r = true) → r ∈ ext S L D m k s ρ
  | 0, s, ρ, r, h1, h2, h3, h4 => by
    rw [ext, List.mem_singleton]
    funext t
    rcases Nat.lt_or_ge t s with e | e
    · exact h1 t e
    · exact h3 t (by omega)
  | k + 1, s, ρ, r, h1, h2, h3, h4 => by
    rw [ext]
    cases hS : S s
    · rw [cond_false]
      refine ext_in k (s + 1) ρ r (fun t ht => ?_) h2 (fun t ht => h3 t (by omega)) (fun t a b c => h4 t (by omega) (by omega) c)
      by_cases e : t = s
      · subst e; exact h2 t hS
      · exact h1 t (by omega)
    · rw [cond_true]
      obtain ⟨a1, a2, a3⟩ := h4 s (Nat.le_refl _) (by omega) hS
      refine List.mem_flatMap.mpr ⟨r s - 1, List.mem_range.mpr (by omega), ?_⟩
      rw [show r s - 1 + 1 = r s by omega]
      have : okC S L D s (r s) ρ = true := by
        rw [← a3]
        exact okC_cg (fun t ht _ => (h1 t ht).symm)
      rw [this, cond_true]
      refine ext_in k (s + 1) _ r (fun t ht => ?_) (fun t ht => ?_) (fun t ht => ?_) (fun t a b c => h4 t (by omega) (by omega) c)
      · by_cases e : t = s
        · subst e; rw [upN_same]
        · rw [upN_ne e]; exact h1 t (by omega)
      · by_cases e : t = s
        · subst e; rw [hS] at ht; cases ht
        · rw [upN_ne e]; exact h2 t ht
      · rw [upN_ne (by omega)]; exact h3 t (by omega)
/-- the rows are those that are valid -/
theorem exX_mem {S : Nat → Bool} {L : Nat → Nat → Bool} {D : DT} {m n : Nat} {r : Nat → Nat} : r ∈ exX S L D m n ↔ Vr S (Lm L m) D n r ∧ ∀ t, ¬ (S t = true ∧ t < n) → r t = 0 := by
  unfold exX exr
  rw [List.mem_map]
  constructor
  · rintro ⟨r0, h, rfl⟩
    obtain ⟨h1, h2, h3, h4⟩ := ext_mem n 0 _ r0 h
    have hres : ∀ t, S t = true → t < n → res S n r0 t = r0 t := fun t a b => by unfold res; rw [a, decide_eq_true b]; rfl
    refine ⟨fun t ht hS => ?_, fun t ht => ?_⟩
    · obtain ⟨a1, a2, a3⟩ := h4 t (Nat.zero_le _) (by omega) hS
      unfold okC at a3
      rw [Bool.and_eq_true] at a3
      rw [hres t hS ht]
      refine ⟨⟨a1, ?_⟩, fun u hu hSu => ?_⟩
      · unfold Lm
        rw [a3.1, decide_eq_true (by omega)]; rfl
      · rw [hres u hSu (by omega)]
        have := all_t.mp a3.2 u hu
        rw [hSu, Bool.true_and] at this
        simpa using this
    · unfold res
      cases hS : S t with
      | false => rfl
      | true =>
        rw [decide_eq_false (fun e => ht ⟨hS, e⟩)]; rfl
  · rintro ⟨h1, h2⟩
    refine ⟨r, ?_, ?_⟩
    · refine ext_in n 0 _ r (fun t ht => absurd ht (Nat.not_lt_zero _)) (fun t ht => h2 t (fun q => by rw [q.1] at ht; cases ht)) (fun t ht => h2 t (fun q => by omega)) (fun t _ ht hS => ?_)
      obtain ⟨⟨a1, a2⟩, a3⟩ := h1 t (by omega) hS
      unfold Lm at a2
      simp only [Bool.and_eq_true, decide_eq_true_eq] at a2
      refine ⟨a1, by omega, ?_⟩
      unfold okC
      rw [a2.1, Bool.true_and]
      refine all_t.mpr (fun u hu => ?_)
      cases hSu : S u with
      | false => rfl
      | true => rw [a3 u hu hSu]; rfl
    · funext t
      unfold res
      cases hS : S t with
      | false => exact (h2 t (fun q => by rw [q.1] at hS; cases hS)).symm
      | true =>
        by_cases e : t < n
        · rw [decide_eq_true e]; rfl
        · rw [decide_eq_false e]
          exact (h2 t (fun q => e q.2)).symm
/-- ahead of another, in the order of rows -/
def lxL (n : Nat) (r r' : Nat → Nat) : Prop := ∃ s, s < n ∧ (∀ t, t < s → r t = r' t) ∧ r s < r' s
theorem lx_irr {n : Nat} {r : Nat → Nat} (h : lxL n r r) : False := by
  obtain ⟨s, _, _, h⟩ := h
  exact Nat.lt_irrefl _ h
theorem lx_asym {n : Nat} {r r' : Nat → Nat} (h : lxL n r r') (h2 : lxL n r' r) : False := by
  obtain ⟨s, a1, a2, a3⟩ := h
  obtain ⟨t, b1, b2, b3⟩ := h2
  rcases Nat.lt_trichotomy s t with e | e | e
  · rw [b2 s e] at a3; omega
  · subst e; omega
  · rw [a2 t e] at b3; omega
theorem ext_lx {S : Nat → Bool} {L : Nat → Nat → Bool} {D : DT} {m n : Nat} : ∀ (k s : Nat) (ρ : Nat → Nat), s + k = n → (ext S L D m k s ρ).Pairwise (fun a b => lxL n (res S n a) (res S n b))
  | 0, s, ρ, _ => by rw [ext]; exact List.pairwise_singleton _ _
  | k + 1, s, ρ, hn => by
    rw [ext]
    cases hS : S s
    · rw [cond_false]; exact ext_lx k (s + 1) ρ (by omega)
    · rw [cond_true]
      refine List.pairwise_flatMap.mpr ⟨fun c _ => ?_, ?_⟩
      · cases okC S L D s (c + 1) ρ
        · exact List.Pairwise.nil
        · exact ext_lx k (s + 1) _ (by omega)
      · refine List.Pairwise.imp ?_ List.pairwise_lt_range
        intro a b hab x hx y hy
        cases h1 : okC S L D s (a + 1) ρ with
        | false => rw [h1] at hx; cases hx
        | true =>
          cases h2 : okC S L D s (b + 1) ρ with
          | false => rw [h2] at hy; cases hy
          | true =>
            rw [h1, cond_true] at hx
            rw [h2, cond_true] at hy
            obtain ⟨x1, -, -, -⟩ := ext_mem k (s + 1) _ x hx
            obtain ⟨y1, -, -, -⟩ := ext_mem k (s + 1) _ y hy
            refine ⟨s, by omega, fun t ht => ?_, ?_⟩
            · unfold res
              rw [x1 t (by omega), y1 t (by omega), upN_ne (by omega), upN_ne (by omega)]
            · unfold res
              rw [hS, decide_eq_true (show s < n by omega), x1 s (by omega), y1 s (by omega), upN_same, upN_same]
              show a + 1 < b + 1
              omega
theorem exX_lx {S : Nat → Bool} {L : Nat → Nat → Bool} {D : DT} {m n : Nat} : (exX S L D m n).Pairwise (lxL n) := by
  unfold exX exr
  exact List.pairwise_map.mpr (ext_lx n 0 _ (Nat.zero_add _))
/-- the first row -/
theorem exX_head {S : Nat → Bool} {L : Nat → Nat → Bool} {D : DT} {m n : Nat} {r : Nat → Nat} (h1 : r ∈ exX S L D m n) (h2 : ∀ r', r' ∈ exX S L D m n → r' = r ∨ lxL n r r') : (exX S L D m n).head? = some r := by
  have hp := exX_lx (S := S) (L := L) (D := D) (m := m) (n := n)
  cases hX : exX S L D m n with
  | nil => rw [hX] at h1; cases h1
  | cons a X =>
    rw [hX] at hp h1 h2
    rcases h2 a List.mem_cons_self with e | e
    · rw [e]; rfl
    · rcases List.mem_cons.mp h1 with q | q
      · rw [← q] at e; exact (lx_irr e).elim
      · exact (lx_asym e ((List.pairwise_cons.mp hp).1 r q)).elim
/-! how many -/
def sumN (f : Nat → Nat) : Nat → Nat
  | 0 => 0
  | n + 1 => sumN f n + f n
theorem sumN_cg {f g : Nat → Nat} : ∀ {n : Nat}, (∀ i, i < n → f i = g i) → sumN f n = sumN g n
  | 0, _ => rfl
  | n + 1, h => by rw [sumN, sumN, sumN_cg (fun i hi => h i (by omega)), h n (by omega)]
theorem sumN_0 : ∀ (n : Nat), sumN (fun _ => 0) n = 0
  | 0 => rfl
  | n + 1 => by rw [sumN, sumN_0 n]
theorem sumN_add (f g : Nat → Nat) : ∀ (n : Nat), sumN (fun i => f i + g i) n = sumN f n + sumN g n
  | 0 => rfl
  | n + 1 => by rw [sumN, sumN, sumN, sumN_add f g n]; omega
theorem sumN_sw (f : Nat → Nat → Nat) (m : Nat) : ∀ (n : Nat), sumN (fun i => sumN (fun j => f i j) m) n = sumN (fun j => sumN (fun i => f i j) n) m
  | 0 => by
    show 0 = sumN (fun j => 0) m
    rw [sumN_0]
  | n + 1 => by
    rw [sumN, sumN_sw f m n, ← sumN_add]
    rfl
def rst (D : DT) (F : Nat → Nat → Bool) (s i : Nat) : Nat → Nat → Bool := fun t j => F t j && !D s (i + 1) t (j + 1)
def cnt (D : DT) : List Nat → (Nat → Nat → Bool) → Nat
  | [], _ => 1
  | s :: l, F => sumN (fun i => bif F s i then cnt D l (rst D F s i) else 0) 10
def Dsy (D : DT) : Prop := ∀ s c t e, D s c t e = D t e s c
theorem rst_sw {D : DT} (hD : Dsy D) (F : Nat → Nat → Bool) (s i t j : Nat) : rst D (rst D F s i) t j = rst D (rst D F t j) s i := by
  funext u v
  unfold rst
  cases F u v <;> cases D s (i + 1) u (v + 1) <;> cases D t (j + 1) u (v + 1) <;> rfl
theorem cnt_sw {D : DT} (hD : Dsy D) (s t : Nat) (l : List Nat) (F : Nat → Nat → Bool) : cnt D (s :: t :: l) F = cnt D (t :: s :: l) F := by
  rw [cnt, cnt]
  have e1 : ∀ (s t : Nat), (fun i => bif F s i then cnt D (t :: l) (rst D F s i) else 0) = fun i => sumN (fun j => bif F s i then (bif rst D F s i t j then cnt D l (rst D (rst D F s i) t j) else 0) else 0) 10 := by
    intro s t
    funext i
    cases F s i with
    | false => simp only [cond_false]; rw [sumN_0]
    | true => simp only [cond_true]; rw [cnt]
  rw [e1 s t, e1 t s, sumN_sw]
  refine sumN_cg (fun j _ => sumN_cg (fun i _ => ?_))
  rw [rst_sw hD F s i t j]
  unfold rst
  rw [hD t (j + 1) s (i + 1)]
  cases F s i <;> cases F t j <;> cases D s (i + 1) t (j + 1) <;> rfl
theorem cnt_pm {D : DT} (hD : Dsy D) {l l' : List Nat} (h : l.Perm l') : ∀ F, cnt D l F = cnt D l' F := by
  induction h with
  | nil => intro F; rfl
  | cons x _ ih =>
    intro F
    rw [cnt, cnt]
    refine sumN_cg (fun i _ => ?_)
    rw [ih]
  | swap x y l => intro F; exact cnt_sw hD y x l F
  | trans _ _ ih1 ih2 => intro F; rw [ih1, ih2]
theorem cnt_cg {D : DT} : ∀ (l : List Nat) (F G : Nat → Nat → Bool), (∀ t, t ∈ l → ∀ i, i < 10 → F t i = G t i) → cnt D l F = cnt D l G
  | [], _, _, _ => rfl
  | s :: l, F, G, h => by
    rw [cnt, cnt]
    refine sumN_cg (fun i hi => ?_)
    rw [h s List.mem_cons_self i hi]
    cases G s i with
    | false => rfl
    | true =>
      rw [cond_true, cond_true]
      exact cnt_cg l _ _ (fun t ht j hj => by unfold rst; rw [h t (List.mem_cons_of_mem _ ht) j hj])
theorem cnt_z {D : DT} : ∀ (l : List Nat) (F : Nat → Nat → Bool) (t : Nat), t ∈ l → (∀ i, i < 10 → F t i = false) → cnt D l F = 0
  | s :: l, F, t, h, h0 => by
    rw [cnt]
    rcases List.mem_cons.mp h with e | e
    · subst e
      rw [sumN_cg (g := fun _ => 0) (fun i hi => by rw [h0 i hi]; rfl), sumN_0]
    · rw [sumN_cg (g := fun _ => 0) (fun i hi => ?_), sumN_0]
      cases F s i with
      | false => rfl
      | true =>
        rw [cond_true]
        exact cnt_z l _ t e (fun j hj => by unfold rst; rw [h0 j hj]; rfl)
theorem sum_map_range (f : Nat → Nat) : ∀ (m : Nat), ((List.range m).map f).sum = sumN f m
  | 0 => rfl
  | m + 1 => by
    rw [List.range_succ, List.map_append, List.sum_append, sum_map_range f m, sumN]
    simp
theorem sumN_ex {f : Nat → Nat} {m : Nat} (h : ∀ i, m ≤ i → f i = 0) : ∀ (k : Nat), sumN f (m + k) = sumN f m
  | 0 => rfl
  | k + 1 => by rw [show m + (k + 1) = (m + k) + 1 by omega, sumN, sumN_ex h k, h (m + k) (by omega)]; rfl
def stL (S : Nat → Bool) : Nat → Nat → List Nat
  | 0, _ => []
  | k + 1, s => bif S s then s :: stL S k (s + 1) else stL S k (s + 1)
def Fρ (S : Nat → Bool) (L : Nat → Nat → Bool) (D : DT) (m s : Nat) (ρ : Nat → Nat) : Nat → Nat → Bool := fun t j => Lm L m t j && (List.range s).all (fun u => !(S u && D u (ρ u) t (j + 1)))
theorem ext_cnt {S : Nat → Bool} {L : Nat → Nat → Bool} {D : DT} (hD : Dsy D) {m : Nat} (hm : m ≤ 10) : ∀ (k s : Nat) (ρ : Nat → Nat), (ext S L D m k s ρ).length = cnt D (stL S k s) (Fρ S L D m s ρ)
  | 0, s, ρ => rfl
  | k + 1, s, ρ => by
    rw [ext, stL]
    cases hS : S s
    · rw [cond_false, cond_false, ext_cnt hD hm k (s + 1) ρ]
      congr 1
      funext t j
      unfold Fρ
      rw [all_succ, hS]
      simp
    · rw [cond_true, cond_true, List.length_flatMap, sum_map_range, cnt]
      have hz : ∀ i, m ≤ i → (bif Fρ S L D m s ρ s i then cnt D (stL S k (s + 1)) (rst D (Fρ S L D m s ρ) s i) else 0) = 0 := by
        intro i hi
        have : Fρ S L D m s ρ s i = false := by
          unfold Fρ Lm
          rw [decide_eq_false (show ¬ i < m by omega), Bool.and_false]; rfl
        rw [this]; rfl
      rw [show (10 : Nat) = m + (10 - m) by omega, sumN_ex hz]
      refine sumN_cg (fun c hc => ?_)
      have e1 : okC S L D s (c + 1) ρ = Fρ S L D m s ρ s c := by
        unfold okC Fρ Lm
        rw [decide_eq_true hc, Bool.and_true, Nat.add_sub_cancel]
        congr 1
        refine all_cg s (fun t _ => ?_)
        rw [hD s (c + 1) t (ρ t)]
      rw [e1]
      cases Fρ S L D m s ρ s c
      · rfl
      · rw [cond_true, cond_true, ext_cnt hD hm k (s + 1)]
        congr 1
        funext t j
        unfold rst Fρ
        rw [all_succ, hS, Bool.true_and, upN_same, Bool.and_assoc]
        congr 2
        refine all_cg s (fun u hu => ?_)
        rw [upN_ne (by omega)]
theorem exX_cnt {S : Nat → Bool} {L : Nat → Nat → Bool} {D : DT} (hD : Dsy D) {m n : Nat} (hm : m ≤ 10) : (exX S L D m n).length = cnt D (stL S n 0) (Lm L m) := by
  unfold exX exr
  rw [List.length_map, ext_cnt hD hm]
  congr 1
  funext t j
  unfold Fρ
  simp
theorem stL_mem {S : Nat → Bool} : ∀ (k s t : Nat), t ∈ stL S k s ↔ s ≤ t ∧ t < s + k ∧ S t = true
  | 0, s, t => by
    rw [stL]
    constructor
    · intro h; cases h
    · rintro ⟨h1, h2, -⟩; omega
  | k + 1, s, t => by
    rw [stL]
    cases hS : S s with
    | false =>
      rw [cond_false, stL_mem k (s + 1) t]
      constructor
      · rintro ⟨h1, h2, h3⟩; exact ⟨by omega, by omega, h3⟩
      · rintro ⟨h1, h2, h3⟩
        have : t ≠ s := fun e => by rw [e, hS] at h3; cases h3
        exact ⟨by omega, by omega, h3⟩
    | true =>
      rw [cond_true, List.mem_cons, stL_mem k (s + 1) t]
      constructor
      · rintro (h | ⟨h1, h2, h3⟩)
        · subst h; exact ⟨Nat.le_refl _, by omega, hS⟩
        · exact ⟨by omega, by omega, h3⟩
      · rintro ⟨h1, h2, h3⟩
        by_cases e : t = s
        · exact Or.inl e
        · exact Or.inr ⟨by omega, by omega, h3⟩
theorem stL_nd {S : Nat → Bool} : ∀ (k s : Nat), (stL S k s).Nodup
  | 0, s => List.Pairwise.nil
  | k + 1, s => by
    rw [stL]
    cases hS : S s with
    | false => exact stL_nd k (s + 1)
    | true =>
      rw [cond_true]
      refine List.nodup_cons.mpr ⟨fun h => ?_, stL_nd k (s + 1)⟩
      have := (stL_mem k (s + 1) s).mp h
      omega
/-- one station taken out -/
theorem stL_pm {S S' : Nat → Bool} {n s : Nat} (hs : s < n) (hS : S s = true) (h : ∀ t, t < n → S' t = (S t && !decide (t = s))) : (stL S n 0).Perm (s :: stL S' n 0) := by
  refine (List.perm_ext_iff_of_nodup (stL_nd _ _) (List.nodup_cons.mpr ⟨fun q => ?_, stL_nd _ _⟩)).mpr (fun a => ?_)
  · have q := (stL_mem _ _ _).mp q
    rw [h s hs, decide_eq_true rfl, Bool.not_true, Bool.and_false] at q
    exact absurd q.2.2 (by decide)
  · rw [List.mem_cons, stL_mem, stL_mem]
    constructor
    · rintro ⟨h1, h2, h3⟩
      by_cases e : a = s
      · exact Or.inl e
      · refine Or.inr ⟨h1, h2, ?_⟩
        rw [h a (by omega), h3, decide_eq_false e]; rfl
    · rintro (e | ⟨h1, h2, h3⟩)
      · subst e; exact ⟨Nat.zero_le _, by omega, hS⟩
      · rw [h a (by omega)] at h3
        simp only [Bool.and_eq_true] at h3
        exact ⟨h1, h2, h3.1⟩
/-- whether there is one, by one station's channels -/
theorem Vr_step {S S' : Nat → Bool} {F : Nat → Nat → Bool} {D : DT} (hD : Dsy D) {n s : Nat} (hs : s < n) (hS : S s = true) (h : ∀ t, t < n → S' t = (S t && !decide (t = s))) (hF : ∀ i, F s i = true → i < 10) : (∃ r, Vr S F D n r) ↔ ∃ i, i < 10 ∧ F s i = true ∧ ∃ r, Vr S' (rst D F s i) D n r := by
  constructor
  · rintro ⟨r, hr⟩
    obtain ⟨⟨a1, a2⟩, a3⟩ := hr s hs hS
    refine ⟨r s - 1, hF _ a2, a2, r, fun t ht hSt => ?_⟩
    rw [h t ht] at hSt
    simp only [Bool.and_eq_true, Bool.not_eq_true', decide_eq_false_iff_not] at hSt
    obtain ⟨⟨b1, b2⟩, b3⟩ := hr t ht hSt.1
    refine ⟨⟨b1, ?_⟩, fun u hu hSu => ?_⟩
    · unfold rst
      rw [b2, show r s - 1 + 1 = r s by omega, show r t - 1 + 1 = r t by omega]
      have : D s (r s) t (r t) = false := by
        rcases Nat.lt_or_ge t s with e | e
        · exact a3 t e hSt.1
        · rw [hD]; exact b3 s (by omega) hS
      rw [this]; rfl
    · rw [h u (by omega)] at hSu
      simp only [Bool.and_eq_true] at hSu
      exact b3 u hu hSu.1
  · rintro ⟨i, hi, hFi, r, hr⟩
    refine ⟨upN r s (i + 1), fun t ht hSt => ?_⟩
    have key : ∀ u, u < n → u ≠ s → S u = true → D s (i + 1) u (r u) = false := by
      intro u hu hne hSu
      obtain ⟨⟨b1, b2⟩, -⟩ := hr u hu (by rw [h u hu, hSu, decide_eq_false hne]; rfl)
      unfold rst at b2
      rw [show r u - 1 + 1 = r u by omega, Bool.and_eq_true] at b2
      simpa using b2.2
    by_cases e : t = s
    · subst e
      rw [upN_same]
      refine ⟨⟨by omega, by rw [Nat.add_sub_cancel]; exact hFi⟩, fun u hu hSu => ?_⟩
      rw [upN_ne (by omega)]
      exact key u (by omega) (by omega) hSu
    · rw [upN_ne e]
      obtain ⟨⟨b1, b2⟩, b3⟩ := hr t ht (by rw [h t ht, hSt, decide_eq_false e]; rfl)
      unfold rst at b2
      rw [Bool.and_eq_true] at b2
      refine ⟨⟨b1, b2.1⟩, fun u hu hSu => ?_⟩
      by_cases e2 : u = s
      · subst e2
        rw [upN_same, hD]
        exact key t ht e hSt
      · rw [upN_ne e2]
        exact b3 u hu (by rw [h u (by omega), hSu, decide_eq_false e2]; rfl)
