/-! the small machine: values, memory, world -/
abbrev AV : Type := Int32 ⊕ (Int64 ⊕ (Nat × Nat))
abbrev vI (x : Int32) : AV := Sum.inl x
abbrev vJ (x : Int64) : AV := Sum.inr (Sum.inl x)
abbrev vP (i r : Nat) : AV := Sum.inr (Sum.inr (i, r))
abbrev Me : Type := (Nat → Nat → Nat → Int32) × (Nat → Nat → Nat → Int64) × (Nat → Nat → Nat → Nat)
def up3 {X : Type} (f : Nat → Nat → Nat → X) (i r k : Nat) (x : X) : Nat → Nat → Nat → X := fun a b c => cond (Nat.beq a i && (Nat.beq c k && Nat.beq b r)) x (f a b c)
def sI (M : Me) (i r k : Nat) (x : Int32) : Me := (up3 M.1 i r k x, M.2)
def sJ (M : Me) (i r k : Nat) (x : Int64) : Me := (M.1, up3 M.2.1 i r k x, M.2.2)
def sG (M : Me) (i r k : Nat) (x : Nat) : Me := (M.1, M.2.1, up3 M.2.2 i r k x)
theorem up3_same {X : Type} {f : Nat → Nat → Nat → X} {i r k : Nat} {x : X} : up3 f i r k x i r k = x := by simp [up3]
theorem up3_ne {X : Type} {f : Nat → Nat → Nat → X} {i r k : Nat} {x : X} {a b c : Nat} (h : ¬ (a = i ∧ b = r ∧ c = k)) : up3 f i r k x a b c = f a b c := by
  unfold up3
  cases hc : (Nat.beq a i && (Nat.beq c k && Nat.beq b r)) with
  | false => rfl
  | true =>
    simp only [Bool.and_eq_true, Nat.beq_eq] at hc
    exact absurd ⟨hc.1, hc.2.2, hc.2.1⟩ h
theorem up3_row {X : Type} {f : Nat → Nat → Nat → X} {i r k : Nat} {x : X} {a b : Nat} (h : (a, b) ≠ (i, r)) : up3 f i r k x a b = f a b := by
  funext c
  exact up3_ne (fun q => h (by rw [q.1, q.2.1]))
theorem up3_at {X : Type} {f : Nat → Nat → Nat → X} {i r k : Nat} {x : X} (c : Nat) : up3 f i r k x i r c = if c = k then x else f i r c := by
  by_cases h : c = k
  · subst h; rw [up3_same, if_pos rfl]
  · rw [if_neg h]; exact up3_ne (fun q => h q.2.2)
abbrev EV : Type := Launch × va_G × (Nat → Nat → Nat) × ClassId × ClassId × ClassId × ClassId × ClassId × (Nat → Nat)
def eL (E : EV) : Launch := E.1
def eG (E : EV) : va_G := E.2.1
def eA (E : EV) : Nat → Nat → Nat := E.2.2.1
def eI (E : EV) : ClassId := E.2.2.2.1
def eB (E : EV) : ClassId := E.2.2.2.2.1
def eZ (E : EV) : ClassId := E.2.2.2.2.2.1
def eJ (E : EV) : ClassId := E.2.2.2.2.2.2.1
def eQ (E : EV) : ClassId := E.2.2.2.2.2.2.2.1
def eV (E : EV) : Nat → Nat := E.2.2.2.2.2.2.2.2
def cv (E : EV) : AV → Value
  | .inl x => .int x
  | .inr (.inl x) => .long x
  | .inr (.inr q) => .ref (eA E q.1 q.2)
def getF (M : Me) (i r k : Nat) : AV := match fkd (ly i).2 k with
  | 0 => vI (M.1 i r k)
  | 1 => vI (M.1 i r k)
  | 2 => vJ (M.2.1 i r k)
  | 3 => vP (tgt i k) 0
  | 4 => vP (tgt i k) r
  | 5 => vP (tgt i k) (M.2.2 i r k)
  | _ => vI 0
def cellE (E : EV) (M : Me) (q : Nat × Nat) : va_E := match (ly q.1).1 with
  | 1 => .inr ((ly q.1).2, (List.range (nf (ly q.1).2)).map fun k => cv E (getF M q.1 q.2 k))
  | 2 => .inl (eI E, (ly q.1).2, .inl (M.1 q.1 q.2))
  | 3 => .inl (eB E, (ly q.1).2, .inl (M.1 q.1 q.2))
  | 4 => .inl (eZ E, (ly q.1).2, .inl (M.1 q.1 q.2))
  | 5 => .inl (eJ E, (ly q.1).2, .inr (.inl (M.2.1 q.1 q.2)))
  | _ => .inl (eQ E, (ly q.1).2, .inr (.inr (.inr (.inr fun j => some (eA E (tgt q.1 0) (j + q.2 * (ly q.1).2))))))
def pls : List (Nat × Nat) := (List.range 78).flatMap fun i => (List.range (rn i)).map fun r => (i, r)
def wsE (E : EV) (M : Me) : va_W := pls.map fun q => (eA E q.1 q.2, cellE E M q)
theorem mem_pls {i r : Nat} : (i, r) ∈ pls ↔ i < 78 ∧ r < rn i := by
  unfold pls
  simp only [List.mem_flatMap, List.mem_range, List.mem_map, Prod.mk.injEq]
  constructor
  · rintro ⟨a, h1, b, h2, rfl, rfl⟩
    exact ⟨h1, h2⟩
  · rintro ⟨h1, h2⟩
    exact ⟨i, h1, r, h2, rfl, rfl⟩
theorem pls_nd : pls.Nodup := by decide +kernel
theorem pls_inj {a b : Nat} {q : Nat × Nat} (h1 : pls[a]? = some q) (h2 : pls[b]? = some q) : a = b := by
  obtain ⟨ha, ea⟩ := List.getElem?_eq_some_iff.mp h1
  obtain ⟨hb, eb⟩ := List.getElem?_eq_some_iff.mp h2
  have hp := List.pairwise_iff_getElem.mp pls_nd
  rcases Nat.lt_trichotomy a b with h | h | h
  · exact absurd (ea.trans eb.symm) (hp a b ha hb h)
  · exact h
  · exact absurd (eb.trans ea.symm) (hp b a hb ha h)
theorem wsE_at (E : EV) (M : Me) {i r : Nat} (h1 : i < 78) (h2 : r < rn i) : ∃ p : Nat, pls[p]? = some (i, r) ∧ (wsE E M)[p]? = some (eA E i r, cellE E M (i, r)) := by
  obtain ⟨p, hp⟩ := List.getElem?_of_mem (mem_pls.mpr ⟨h1, h2⟩)
  refine ⟨p, hp, ?_⟩
  unfold wsE
  rw [List.getElem?_map, hp]
  rfl
theorem wsE_set (E : EV) {M M' : Me} {p i r : Nat} {e : va_E} (hp : pls[p]? = some (i, r)) (ho : ∀ q, q ≠ (i, r) → cellE E M' q = cellE E M q) (he : cellE E M' (i, r) = e) : (wsE E M).set p (eA E i r, e) = wsE E M' := by
  apply List.ext_getElem?
  intro a
  by_cases hap : a = p
  · subst hap
    have hl : a < (wsE E M).length := by
      unfold wsE
      rw [List.length_map]
      exact (List.getElem?_eq_some_iff.mp hp).1
    rw [List.getElem?_set_self hl]
    unfold wsE
    rw [List.getElem?_map, hp, ← he]
    rfl
  · rw [List.getElem?_set_ne (Ne.symm hap)]
    unfold wsE
    rw [List.getElem?_map, List.getElem?_map]
    cases hq : pls[a]? with
    | none => rfl
    | some q =>
      have hne : q ≠ (i, r) := fun z => hap (pls_inj hq (by rw [z]; exact hp))
      simp only [Option.map_some, ho q hne]
def AA (E : EV) : Nat → Prop := fun q => ∃ i r, i < 78 ∧ r < rn i ∧ q = eA E i r
def GE (E : EV) : Prop := ∀ i r i' r', i < 78 → r < rn i → i' < 78 → r' < rn i' → eA E i r = eA E i' r' → i = i' ∧ r = r'
theorem wsE_D {E : EV} (M : Me) (h : GE E) : va_D (AA E) (wsE E M) := by
  have key : ∀ (k : Nat) (q : Nat × va_E), (wsE E M)[k]? = some q → ∃ i r, pls[k]? = some (i, r) ∧ q.1 = eA E i r := by
    intro k q hk
    unfold wsE at hk
    rw [List.getElem?_map] at hk
    cases hq : pls[k]? with
    | none => rw [hq] at hk; cases hk
    | some z =>
      rw [hq] at hk
      cases hk
      exact ⟨z.1, z.2, rfl, rfl⟩
  refine ⟨fun a b x y ha hb hxy => ?_, fun k q hk => ?_⟩
  · obtain ⟨i, r, h1, h2⟩ := key a x ha
    obtain ⟨i', r', h3, h4⟩ := key b y hb
    obtain ⟨m1, m2⟩ := mem_pls.mp (List.mem_of_getElem? h1)
    obtain ⟨m3, m4⟩ := mem_pls.mp (List.mem_of_getElem? h3)
    obtain ⟨rfl, rfl⟩ := h i r i' r' m1 m2 m3 m4 (h2.symm.trans (hxy.trans h4))
    exact pls_inj h1 h3
  · obtain ⟨i, r, h1, h2⟩ := key k q hk
    obtain ⟨m1, m2⟩ := mem_pls.mp (List.mem_of_getElem? h1)
    exact ⟨i, r, m1, m2, h2⟩
/-! validity of references -/
def okV : AV → Prop
  | .inr (.inr q) => q.2 < rn q.1
  | _ => True
def okSt (st : List AV) : Prop := ∀ v ∈ st, okV v
def okLs (ls : List (Option AV)) : Prop := ∀ v, some v ∈ ls → okV v
def okMe (M : Me) : Prop := ∀ i r k, (ly i).1 = 1 → fkd (ly i).2 k = 5 → M.2.2 i r k < rn (tgt i k)
def layOK : Bool := (List.range 78).all fun i => match (ly i).1 with
  | 1 => Nat.blt (ly i).2 11 && (List.range (nf (ly i).2)).all fun k => match fkd (ly i).2 k with
    | 3 => Nat.blt 0 (rn (tgt i k))
    | 4 => Nat.ble (rn i) (rn (tgt i k))
    | _ => true
  | 6 => Nat.ble (rn i * (ly i).2) (rn (tgt i 0)) && Nat.blt (ly i).2 3000
  | _ => Nat.blt (ly i).2 3000
theorem layOK_t : layOK = true := by decide +kernel
theorem ly_big {i : Nat} (h : ¬ i < 78) : ly i = (0, 0) := by
  have e : ∀ k, k < 78 → Nat.beq i k = false := fun k hk => by
    cases hb : Nat.beq i k with
    | false => rfl
    | true => exact absurd (Nat.beq_eq.mp hb) (by omega)
  have b : ∀ k, k ≤ 78 → Nat.blt i k = false := fun k hk => by
    cases hb : Nat.blt i k with
    | false => rfl
    | true => exact absurd (Nat.blt_eq.mp hb) (by omega)
  unfold ly
  simp [b, e]
theorem ly_lt {i : Nat} (h : (ly i).1 ≠ 0) : i < 78 := by
  by_cases hi : i < 78
  · exact hi
  · exact absurd (by rw [ly_big hi]) h
theorem lay_cls {i : Nat} (h : (ly i).1 = 1) : (ly i).2 < 11 := by
  have h1 := List.all_eq_true.mp layOK_t i (List.mem_range.mpr (ly_lt (by rw [h]; decide)))
  rw [h] at h1
  simp only [Bool.and_eq_true] at h1
  exact Nat.blt_eq.mp h1.1
theorem lay_fld {i k : Nat} (h : (ly i).1 = 1) (hk : k < nf (ly i).2) : (fkd (ly i).2 k = 3 → 0 < rn (tgt i k)) ∧ (fkd (ly i).2 k = 4 → rn i ≤ rn (tgt i k)) := by
  have h1 := List.all_eq_true.mp layOK_t i (List.mem_range.mpr (ly_lt (by rw [h]; decide)))
  rw [h] at h1
  simp only [Bool.and_eq_true] at h1
  have h2 := List.all_eq_true.mp h1.2 k (List.mem_range.mpr hk)
  refine ⟨fun e => ?_, fun e => ?_⟩
  · rw [e] at h2; exact Nat.blt_eq.mp h2
  · rw [e] at h2; exact Nat.le_of_ble_eq_true h2
theorem lay_row {i : Nat} (h : (ly i).1 = 6) : rn i * (ly i).2 ≤ rn (tgt i 0) := by
  have h1 := List.all_eq_true.mp layOK_t i (List.mem_range.mpr (ly_lt (by rw [h]; decide)))
  rw [h] at h1
  simp only [Bool.and_eq_true] at h1
  exact Nat.le_of_ble_eq_true h1.1
theorem lay_len {i n : Nat} (kd : Nat) (h : ly i = (kd, n)) (h0 : kd ≠ 0) (h2 : kd ≠ 1) : n < 3000 := by
  have h1 := List.all_eq_true.mp layOK_t i (List.mem_range.mpr (ly_lt (by rw [h]; exact h0)))
  rw [h] at h1
  dsimp only at h1
  split at h1
  · exact absurd rfl h2
  · simp only [Bool.and_eq_true] at h1
    exact Nat.blt_eq.mp h1.2
  · exact Nat.blt_eq.mp h1
theorem okV_getF {M : Me} {i r k : Nat} (hM : okMe M) (h : (ly i).1 = 1) (hr : r < rn i) (hk : k < nf (ly i).2) : okV (getF M i r k) := by
  obtain ⟨h3, h4⟩ := lay_fld h hk
  unfold getF
  split
  · trivial
  · trivial
  · trivial
  · rename_i e; exact h3 e
  · rename_i e; exact Nat.lt_of_lt_of_le hr (h4 e)
  · rename_i e; exact hM i r k h e
  · trivial
/-! locals -/
def lvl (E : EV) : Nat → List (Option AV) → List (Nat × Value)
  | _, [] => []
  | n, none :: l => lvl E (n + 1) l
  | n, some v :: l => (n, cv E v) :: lvl E (n + 1) l
def lg : List (Option AV) → Nat → Option AV
  | [], _ => none
  | a :: _, 0 => a
  | _ :: l, n + 1 => lg l n
def clr (n : Nat) (a : Option AV) : Option AV := match n, a with
  | 0, some (.inr (.inl _)) => none
  | _, a => a
def sto : List (Option AV) → Nat → AV → List (Option AV)
  | [], _, _ => []
  | _ :: l, 0, v => some v :: l
  | a :: l, n + 1, v => clr n a :: sto l n v
def hd0 : List (Option AV) → List (Option AV)
  | [] => []
  | _ :: l => none :: l
def sto2 : List (Option AV) → Nat → AV → List (Option AV)
  | [], _, _ => []
  | _ :: l, 0, v => some v :: hd0 l
  | a :: l, n + 1, v => clr n a :: sto2 l n v
theorem lvl_ge {E : EV} : ∀ (l : List (Option AV)) (n j : Nat) (w : Value), (j, w) ∈ lvl E n l → n ≤ j
  | [], _, _, _, h => by cases h
  | none :: l, n, j, w, h => Nat.le_of_succ_le (lvl_ge l (n + 1) j w h)
  | some v :: l, n, j, w, h => by
    rcases List.mem_cons.mp h with h | h
    · cases h; exact Nat.le_refl _
    · exact Nat.le_of_succ_le (lvl_ge l (n + 1) j w h)
theorem lg_at {E : EV} : ∀ (l : List (Option AV)) (n i : Nat) (v : AV), lg l i = some v → (n + i, cv E v) ∈ lvl E n l
  | [], _, _, _, h => by cases h
  | a :: l, n, 0, v, h => by
    have h : a = some v := h
    subst h
    exact List.mem_cons_self
  | none :: l, n, i + 1, v, h => by
    have h1 := lg_at (E := E) l (n + 1) i v h
    rw [Nat.add_right_comm] at h1
    exact h1
  | some u :: l, n, i + 1, v, h => by
    have h1 := lg_at (E := E) l (n + 1) i v h
    rw [Nat.add_right_comm] at h1
    exact List.mem_cons_of_mem _ h1
theorem lg_mem : ∀ (l : List (Option AV)) (i : Nat) (v : AV), lg l i = some v → some v ∈ l
  | [], _, _, h => by cases h
  | a :: l, 0, v, h => by
    have h : a = some v := h
    subst h
    exact List.mem_cons_self
  | a :: l, i + 1, v, h => List.mem_cons_of_mem _ (lg_mem l i v h)
theorem clr_mem {E : EV} {n : Nat} {a : Option AV} {l : List (Option AV)} {b j : Nat} {w : Value} (h : (j, w) ∈ lvl E b (clr n a :: l)) : (j, w) ∈ lvl E (b + 1) l ∨ (j = b ∧ (∃ v, a = some v ∧ w = cv E v) ∧ ¬ (n = 0 ∧ w.category = 2)) := by
  match n, a, h with
  | n, none, h => cases n <;> exact Or.inl h
  | 0, some (.inl x), h =>
    rcases List.mem_cons.mp h with h | h
    · cases h; exact Or.inr ⟨rfl, ⟨_, rfl, rfl⟩, fun q => absurd q.2 (by simp [cv, Value.category])⟩
    · exact Or.inl h
  | 0, some (.inr (.inl x)), h => exact Or.inl h
  | 0, some (.inr (.inr x)), h =>
    rcases List.mem_cons.mp h with h | h
    · cases h; exact Or.inr ⟨rfl, ⟨_, rfl, rfl⟩, fun q => absurd q.2 (by simp [cv, Value.category])⟩
    · exact Or.inl h
  | n + 1, some v, h =>
    rcases List.mem_cons.mp h with h | h
    · cases h; exact Or.inr ⟨rfl, ⟨_, rfl, rfl⟩, fun q => absurd q.1 (by omega)⟩
    · exact Or.inl h
theorem lvl_tail {E : EV} {a : Option AV} {l : List (Option AV)} {b j : Nat} {w : Value} (h : (j, w) ∈ lvl E (b + 1) l) : (j, w) ∈ lvl E b (a :: l) := by
  cases a with
  | none => exact h
  | some v => exact List.mem_cons_of_mem _ h
theorem lvl_head {E : EV} {v : AV} {l : List (Option AV)} {b : Nat} : (b, cv E v) ∈ lvl E b (some v :: l) := List.mem_cons_self
theorem sto_mem {E : EV} {v : AV} : ∀ (l : List (Option AV)) (n i j : Nat) (w : Value), (j, w) ∈ lvl E n (sto l i v) → (j = n + i ∧ w = cv E v) ∨ ((j, w) ∈ lvl E n l ∧ j ≠ n + i ∧ ¬ (j + 1 = n + i ∧ w.category = 2))
  | [], _, _, _, _, h => by cases h
  | a :: l, n, 0, j, w, h => by
    rcases List.mem_cons.mp h with h | h
    · cases h; exact Or.inl ⟨rfl, rfl⟩
    · have hg := lvl_ge l (n + 1) j w h
      exact Or.inr ⟨lvl_tail h, by omega, fun q => by omega⟩
  | a :: l, n, i + 1, j, w, h => by
    rcases clr_mem h with h | ⟨rfl, ⟨u, rfl, rfl⟩, hc⟩
    · rcases sto_mem l (n + 1) i j w h with ⟨h1, h2⟩ | ⟨h1, h2, h3⟩
      · exact Or.inl ⟨by omega, h2⟩
      · exact Or.inr ⟨lvl_tail h1, by omega, fun q => h3 ⟨by omega, q.2⟩⟩
    · exact Or.inr ⟨lvl_head, by omega, fun q => hc ⟨by omega, q.2⟩⟩
theorem hd0_mem {E : EV} {l : List (Option AV)} {n j : Nat} {w : Value} (h : (j, w) ∈ lvl E n (hd0 l)) : (j, w) ∈ lvl E n l ∧ j ≠ n := by
  cases l with
  | nil => cases h
  | cons a l =>
    have hg := lvl_ge l (n + 1) j w h
    exact ⟨lvl_tail h, by omega⟩
theorem sto2_mem {E : EV} {v : AV} : ∀ (l : List (Option AV)) (n i j : Nat) (w : Value), (j, w) ∈ lvl E n (sto2 l i v) → (j = n + i ∧ w = cv E v) ∨ ((j, w) ∈ lvl E n l ∧ j ≠ n + i ∧ j ≠ n + i + 1 ∧ ¬ (j + 1 = n + i ∧ w.category = 2))
  | [], _, _, _, _, h => by cases h
  | a :: l, n, 0, j, w, h => by
    rcases List.mem_cons.mp h with h | h
    · cases h; exact Or.inl ⟨rfl, rfl⟩
    · obtain ⟨h1, h2⟩ := hd0_mem h
      have hg := lvl_ge l (n + 1) j w h1
      exact Or.inr ⟨lvl_tail h1, by omega, by omega, fun q => by omega⟩
  | a :: l, n, i + 1, j, w, h => by
    rcases clr_mem h with h | ⟨rfl, ⟨u, rfl, rfl⟩, hc⟩
    · rcases sto2_mem l (n + 1) i j w h with ⟨h1, h2⟩ | ⟨h1, h2, h3, h4⟩
      · exact Or.inl ⟨by omega, h2⟩
      · exact Or.inr ⟨lvl_tail h1, by omega, by omega, fun q => h4 ⟨by omega, q.2⟩⟩
    · exact Or.inr ⟨lvl_head, by omega, by omega, fun q => hc ⟨by omega, q.2⟩⟩
theorem clr_in {n : Nat} {a : Option AV} {v : AV} (h : some v = clr n a) : some v = a := by
  match n, a, h with
  | n, none, h => cases n <;> cases h
  | 0, some (.inl x), h => exact h
  | 0, some (.inr (.inl x)), h => cases h
  | 0, some (.inr (.inr x)), h => exact h
  | n + 1, some u, h => exact h
theorem sto_in {v : AV} : ∀ (l : List (Option AV)) (i : Nat) (u : AV), some u ∈ sto l i v → u = v ∨ some u ∈ l
  | [], _, _, h => by cases h
  | a :: l, 0, u, h => by
    rcases List.mem_cons.mp h with h | h
    · cases h; exact Or.inl rfl
    · exact Or.inr (List.mem_cons_of_mem _ h)
  | a :: l, i + 1, u, h => by
    rcases List.mem_cons.mp h with h | h
    · exact Or.inr (by rw [clr_in h]; exact List.mem_cons_self)
    · rcases sto_in l i u h with h | h
      · exact Or.inl h
      · exact Or.inr (List.mem_cons_of_mem _ h)
theorem sto2_in {v : AV} : ∀ (l : List (Option AV)) (i : Nat) (u : AV), some u ∈ sto2 l i v → u = v ∨ some u ∈ l
  | [], _, _, h => by cases h
  | a :: l, 0, u, h => by
    rcases List.mem_cons.mp h with h | h
    · cases h; exact Or.inl rfl
    · cases l with
      | nil => cases h
      | cons b l =>
        rcases List.mem_cons.mp h with h | h
        · cases h
        · exact Or.inr (List.mem_cons_of_mem _ (List.mem_cons_of_mem _ h))
  | a :: l, i + 1, u, h => by
    rcases List.mem_cons.mp h with h | h
    · exact Or.inr (by rw [clr_in h]; exact List.mem_cons_self)
    · rcases sto2_in l i u h with h | h
      · exact Or.inl h
      · exact Or.inr (List.mem_cons_of_mem _ h)
theorem okLs_sto {l : List (Option AV)} {i : Nat} {v : AV} (h : okLs l) (hv : okV v) : okLs (sto l i v) := fun u hu => (sto_in l i u hu).elim (fun e => e ▸ hv) (h u)
theorem okLs_sto2 {l : List (Option AV)} {i : Nat} {v : AV} (h : okLs l) (hv : okV v) : okLs (sto2 l i v) := fun u hu => (sto2_in l i u hu).elim (fun e => e ▸ hv) (h u)
/-- the kit's list behind a store of one word, and ours -/
theorem lv_of_sto {E : EV} {js : Array Slot} {n i : Nat} {l : List (Option AV)} {v : AV} (h : lv_has js n ((i, cv E v) :: (lvl E 0 l).filter (fun q => !(q.1 == i) && !(q.1 + 1 == i && q.2.category == 2)))) : lv_has js n (lvl E 0 (sto l i v)) := by
  refine ⟨h.1, h.2.1, fun q hq => h.2.2 q ?_⟩
  obtain ⟨j, w⟩ := q
  rcases sto_mem l 0 i j w hq with ⟨h1, h2⟩ | ⟨h1, h2, h3⟩
  · rw [h1, h2, Nat.zero_add]; exact List.mem_cons_self
  · rw [Nat.zero_add] at h2 h3
    refine List.mem_cons_of_mem _ (List.mem_filter.mpr ⟨h1, ?_⟩)
    simp only [Bool.and_eq_true, Bool.not_eq_true', beq_eq_false_iff_ne, Bool.and_eq_false_imp, beq_iff_eq]
    exact ⟨h2, fun a b => h3 ⟨a, b⟩⟩
theorem lv_of_sto2 {E : EV} {js : Array Slot} {n i : Nat} {l : List (Option AV)} {v : AV} (h : lv_has js n ((i, cv E v) :: (lvl E 0 l).filter (fun q => !(q.1 == i) && (!(q.1 == i + 1) && !(q.1 + 1 == i && q.2.category == 2))))) : lv_has js n (lvl E 0 (sto2 l i v)) := by
  refine ⟨h.1, h.2.1, fun q hq => h.2.2 q ?_⟩
  obtain ⟨j, w⟩ := q
  rcases sto2_mem l 0 i j w hq with ⟨h1, h2⟩ | ⟨h1, h2, h3, h4⟩
  · rw [h1, h2, Nat.zero_add]; exact List.mem_cons_self
  · rw [Nat.zero_add] at h2 h3 h4
    refine List.mem_cons_of_mem _ (List.mem_filter.mpr ⟨h1, ?_⟩)
    simp only [Bool.and_eq_true, Bool.not_eq_true', beq_eq_false_iff_ne, Bool.and_eq_false_imp, beq_iff_eq]
    exact ⟨h2, h3, fun a b => h4 ⟨a, b⟩⟩
theorem lv_get {E : EV} {js : Array Slot} {n i : Nat} {l : List (Option AV)} {v : AV} (h : lv_has js n (lvl E 0 l)) (hg : lg l i = some v) : js[i]? = some (.val (cv E v)) := by
  have h1 := h.2.2 _ (lg_at (E := E) l 0 i v hg)
  rw [Nat.zero_add] at h1
  exact h1
