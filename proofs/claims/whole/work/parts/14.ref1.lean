/-! the reference: what its memory tells, and its leaves -/
def cN (M : Me) : Nat := (M.1 60 0 17).toNatClampNeg
def sN (M : Me) : Nat := (M.1 60 0 18).toNatClampNeg
def bN (M : Me) : Nat := (M.1 60 0 19).toNatClampNeg
def oN (M : Me) (s : Nat) : Nat := (M.1 65 0 s).toNatClampNeg
def RW (M : Me) : Prop := (M.1 60 0 17 = nI (cN M) ∧ cN M ≤ 10) ∧ (M.1 60 0 18 = nI (sN M) ∧ sN M ≤ 8) ∧ (M.1 60 0 19 = nI (bN M) ∧ bN M ≤ 4) ∧ ∀ s, s < sN M → M.1 65 0 s = nI (oN M s) ∧ 1 ≤ oN M s ∧ oN M s ≤ 10
def aFar (M : Me) (a b : Nat) : Int32 := (M.1 62 0 (3 * a) - M.1 62 0 (3 * b)) * (M.1 62 0 (3 * a) - M.1 62 0 (3 * b)) + (M.1 62 0 (3 * a + 1) - M.1 62 0 (3 * b + 1)) * (M.1 62 0 (3 * a + 1) - M.1 62 0 (3 * b + 1))
def aRch (M : Me) (a : Nat) : Int32 := M.1 62 0 (3 * a + 2)
def aClash (M : Me) (s t : Nat) : Bool := decide (aFar M s t ≤ (aRch M s + aRch M t) * (aRch M s + aRch M t))
def aMx (M : Me) (s t : Nat) : Int32 := if aRch M t < aRch M s then aRch M s else aRch M t
def aBrush (M : Me) (s t : Nat) : Bool := decide (aFar M s t ≤ aMx M s t * aMx M s t)
def aDist (M : Me) (s c t d : Nat) : Bool := bif decide (c = d) then aClash M s t else (decide (c = d + 1) || decide (d = c + 1)) && aBrush M s t
def aCnt (M : Me) (b s : Nat) : Bool := decide (aFar M (8 + b) s ≤ aRch M (8 + b) * aRch M (8 + b))
def aOn (M : Me) (s : Nat) : Bool := bt (M.1 65 0 24) s
def lstK (M : Me) (s k : Nat) (i : Nat) : Bool := (decide (i < cN M) && !bt (M.1 65 0 (16 + s)) i) && (List.range k).all (fun b => !(aCnt M b s && bt (M.1 63 0 b) i))
def aLst (M : Me) (s : Nat) : Nat → Bool := lstK M s (bN M)
def aDsb (M : Me) (s c : Nat) : Nat → Bool := fun t => decide (t < sN M) && (!decide (t = s) && (aOn M t && aDist M s c t (oN M t)))
theorem nI_mul (a b : Nat) : nI a * nI b = nI (a * b) := pk_mul a b
theorem nI_s8 (a b : Nat) : nI a + nI b = nI (a + b) := nI_add a b
theorem mkS_full {f : Nat → Bool} {n : Nat} (hn : n ≤ 32) (h : ∀ i, f i = true → i < n) : mkS f n = S32 f := by
  rw [mkS_S32 hn]
  refine S32_cg fun i _ => ?_
  cases hf : f i
  · simp
  · simp [h i hf]
theorem qLe {x y : Int32} {A B : Prop} {a b : Nat} (hx : x = nI a) (hy : y = nI b) (ha : a < 2 ^ 31) (hb : b < 2 ^ 31) (h1 : a ≤ b → A) (h2 : b < a → B) : (x ≤ y → A) ∧ (¬ x ≤ y → B) := by subst hx; subst hy; exact cLe ha hb h1 h2
theorem qLt {x y : Int32} {A B : Prop} {a b : Nat} (hx : x = nI a) (hy : y = nI b) (ha : a < 2 ^ 31) (hb : b < 2 ^ 31) (h1 : a < b → A) (h2 : b ≤ a → B) : (x < y → A) ∧ (¬ x < y → B) := by subst hx; subst hy; exact cLt ha hb h1 h2
theorem qEq {x y : Int32} {A B : Prop} {a b : Nat} (hx : x = nI a) (hy : y = nI b) (ha : a < 2 ^ 31) (hb : b < 2 ^ 31) (h1 : a = b → A) (h2 : a ≠ b → B) : (x = y → A) ∧ (¬ x = y → B) := by subst hx; subst hy; exact cEq ha hb h1 h2
theorem qNe {x y : Int32} {A B : Prop} {a b : Nat} (hx : x = nI a) (hy : y = nI b) (ha : a < 2 ^ 31) (hb : b < 2 ^ 31) (h1 : a ≠ b → A) (h2 : a = b → B) : (¬ x = y → A) ∧ (x = y → B) := by subst hx; subst hy; exact cNe ha hb h1 h2
/-- an answer, and nothing else -/
abbrev RP (v : AV) (M : Me) : Option AV → Me → Prop := fun r M' => r = some v ∧ M' = M
theorem xq {E : EV} {d : Nat} {M : Me} {m' : MC} {as : List AV} {v : AV} {K : Option AV → Me → Prop} (d' : Nat) (hok : okM m') (hM : Mt E d' m' as M (RP v M)) (hd : d' < d) (hk : K (some v) M) : codeW m' ∈ TW ∧ CallK E d m' as M K := xc d' hok hM hd (fun r M' h => by rw [h.1, h.2]; exact hk)
section R1
variable (E : EV) (d : Nat) (M : Me)
theorem r_in (v low high : Int32) : Mt E d m_Mo_in [vI v, vI low, vI high] M (fun r M' => r = some (vI (bI (decide (low ≤ v) && decide (v ≤ high)))) ∧ M' = M) := by
  refine Mt.go ok_Mo_in [] 20 rfl ?_
  refine And.intro (fun c => ?_) (fun c => ?_)
  · refine And.intro (Or.inl rfl) (And.intro ?_ rfl)
    have : decide (low ≤ v) = false := decide_eq_false (fun h => absurd c (Int32.not_lt.mpr h))
    rw [this]; rfl
  · have c1 : decide (low ≤ v) = true := decide_eq_true (Int32.not_lt.mp c)
    refine And.intro (fun e => ?_) (fun e => ?_)
    · refine And.intro (Or.inl rfl) (And.intro ?_ rfl)
      have : decide (v ≤ high) = false := decide_eq_false (fun h => absurd e (Int32.not_lt.mpr h))
      rw [this, Bool.and_false]; rfl
    · refine And.intro (Or.inr rfl) (And.intro ?_ rfl)
      rw [c1, decide_eq_true (Int32.not_lt.mp e)]; rfl
theorem r_has (x : Int32) (j : Nat) (hj : j < 32) : Mt E d m_Mo_has [vI x, vI (nI j)] M (fun r M' => r = some (vI (bI (bt x j))) ∧ M' = M) := by
  refine Mt.go ok_Mo_has [] 20 rfl ?_
  refine And.intro (fun c => ?_) (fun c => ?_)
  · refine And.intro (Or.inl rfl) (And.intro ?_ rfl)
    rw [hasL x hj] at c
    have : bt x j = false := by cases h : bt x j with
      | false => rfl
      | true => rw [h] at c; exact absurd rfl c
    rw [this]; rfl
  · refine And.intro (Or.inr rfl) (And.intro ?_ rfl)
    rw [hasL x hj] at c
    have : bt x j = true := by cases h : bt x j with
      | true => rfl
      | false => rw [h] at c; exact absurd c (by decide)
    rw [this]; rfl
theorem r_reach (a : Nat) (ha : a < 12) : Mt E d m_Mo_reach [vP 60 0, vI (nI a)] M (fun r M' => r = some (vI (aRch M a)) ∧ M' = M) := by
  refine Mt.go ok_Mo_reach [] 20 rfl ?_
  refine ix (3 * a + 2) (show _ < 72 by omega) ?_ (And.intro rfl rfl)
  rw [nI_mul, nI_s8]
theorem r_farOf (a b : Nat) (ha : a < 12) (hb : b < 12) : Mt E d m_Mo_farOf [vP 60 0, vI (nI a), vI (nI b)] M (fun r M' => r = some (vI (aFar M a b)) ∧ M' = M) := by
  refine Mt.go ok_Mo_farOf [] 60 rfl ?_
  refine ix (3 * a) (show _ < 72 by omega) (nI_mul 3 a) ?_
  refine ix (3 * b) (show _ < 72 by omega) (nI_mul 3 b) ?_
  refine ix (3 * a + 1) (show _ < 72 by omega) (by rw [nI_mul, nI_s8]) ?_
  refine ix (3 * b + 1) (show _ < 72 by omega) (by rw [nI_mul, nI_s8]) ?_
  exact And.intro rfl rfl
theorem r_doClash (s t : Nat) (hs : s < 12) (ht : t < 12) : Mt E (d + 1) m_Mo_doClash [vP 60 0, vI (nI s), vI (nI t)] M (RP (vI (bI (aClash M s t))) M) := by
  refine Mt.go ok_Mo_doClash [] 60 rfl ?_
  refine xq d ok_Mo_farOf (r_farOf E d M s t hs ht) (Nat.lt_succ_self d) ?_
  refine xq d ok_Mo_reach (r_reach E d M s hs) (Nat.lt_succ_self d) ?_
  refine xq d ok_Mo_reach (r_reach E d M t ht) (Nat.lt_succ_self d) ?_
  refine xq d ok_Mo_reach (r_reach E d M s hs) (Nat.lt_succ_self d) ?_
  refine xq d ok_Mo_reach (r_reach E d M t ht) (Nat.lt_succ_self d) ?_
  refine And.intro (fun c => ?_) (fun c => ?_)
  · refine And.intro (Or.inl rfl) (And.intro ?_ rfl)
    rw [show aClash M s t = false from decide_eq_false (Int32.not_le.mpr c)]; rfl
  · refine And.intro (Or.inr rfl) (And.intro ?_ rfl)
    rw [show aClash M s t = true from decide_eq_true (Int32.not_lt.mp c)]; rfl
theorem r_doBrush (s t : Nat) (hs : s < 12) (ht : t < 12) : Mt E (d + 1) m_Mo_doBrush [vP 60 0, vI (nI s), vI (nI t)] M (RP (vI (bI (aBrush M s t))) M) := by
  refine Mt.go ok_Mo_doBrush [26] 60 rfl ?_
  have key : ∀ x, x = aMx M s t → Wp E (d + 1) m_Mo_doBrush 26 [some (vP 60 0), some (vI (nI s)), some (vI (nI t)), none] [vI x] M (RP (vI (bI (aBrush M s t))) M) := by
    rintro x rfl
    refine go ok_Mo_doBrush [] 60 ?_
    refine xq d ok_Mo_farOf (r_farOf E d M s t hs ht) (Nat.lt_succ_self d) ?_
    refine And.intro (fun c => ?_) (fun c => ?_)
    · refine And.intro (Or.inl rfl) (And.intro ?_ rfl)
      rw [show aBrush M s t = false from decide_eq_false (Int32.not_le.mpr c)]; rfl
    · refine And.intro (Or.inr rfl) (And.intro ?_ rfl)
      rw [show aBrush M s t = true from decide_eq_true (Int32.not_lt.mp c)]; rfl
  refine xq d ok_Mo_reach (r_reach E d M s hs) (Nat.lt_succ_self d) ?_
  refine xq d ok_Mo_reach (r_reach E d M t ht) (Nat.lt_succ_self d) ?_
  refine And.intro (fun c => ?_) (fun c => ?_)
  · refine xq d ok_Mo_reach (r_reach E d M t ht) (Nat.lt_succ_self d) ?_
    exact key _ (by unfold aMx; rw [if_neg (Int32.not_lt.mpr c)])
  · refine xq d ok_Mo_reach (r_reach E d M s hs) (Nat.lt_succ_self d) ?_
    exact key _ (by unfold aMx; rw [if_pos (Int32.not_le.mp c)])
theorem sub_one_iff {a b : Nat} (ha : a < 2 ^ 30) (hb : b < 2 ^ 30) : nI a - nI b = nI 1 ↔ a = b + 1 := by
  constructor
  · intro h
    have h1 := congrArg Int32.toInt h
    rw [pk_sub_toInt ha hb, nI_toInt (by omega)] at h1
    omega
  · intro h
    subst h
    rw [pk_sub (by omega), show b + 1 - b = 1 by omega]
theorem r_disturb (s c t e : Nat) (hs : s < 12) (ht : t < 12) (hc : c < 100) (he : e < 100) : Mt E (d + 2) m_Mo_disturb [vP 60 0, vI (nI s), vI (nI c), vI (nI t), vI (nI e)] M (RP (vI (bI (aDist M s c t e))) M) := by
  refine Mt.go ok_Mo_disturb [31] 60 rfl ?_
  have key : (decide (c = e) = false) → ((decide (c = e + 1) || decide (e = c + 1)) = true) → Wp E (d + 2) m_Mo_disturb 31 [some (vP 60 0), some (vI (nI s)), some (vI (nI c)), some (vI (nI t)), some (vI (nI e))] [] M (RP (vI (bI (aDist M s c t e))) M) := by
    intro h1 h2
    refine go ok_Mo_disturb [] 60 ?_
    refine xq (d + 1) ok_Mo_doBrush (r_doBrush E d M s t hs ht) (by omega) ?_
    have e1 : aDist M s c t e = aBrush M s t := by unfold aDist; rw [h1, h2]; rfl
    refine brF (fun h => ?_) (fun h => ?_)
    · refine And.intro (Or.inl rfl) (And.intro ?_ rfl)
      rw [e1, h]; rfl
    · refine And.intro (Or.inr rfl) (And.intro ?_ rfl)
      rw [e1, h]; rfl
  refine cNe (by omega) (by omega) (fun h => ?_) (fun h => ?_)
  · have h0 : decide (c = e) = false := decide_eq_false h
    refine And.intro (fun q => ?_) (fun q => ?_)
    · have q := (sub_one_iff (by omega) (by omega)).mp q
      exact key h0 (by rw [decide_eq_true q]; rfl)
    · have q1 : ¬ c = e + 1 := fun z => q ((sub_one_iff (by omega) (by omega)).mpr z)
      refine And.intro (fun q => ?_) (fun q => ?_)
      · have q2 : ¬ e = c + 1 := fun z => q ((sub_one_iff (by omega) (by omega)).mpr z)
        refine And.intro (Or.inl rfl) (And.intro ?_ rfl)
        unfold aDist
        rw [h0, decide_eq_false q1, decide_eq_false q2]; rfl
      · have q := (sub_one_iff (by omega) (by omega)).mp q
        exact key h0 (by rw [decide_eq_true q, Bool.or_true])
  · refine xq (d + 1) ok_Mo_doClash (r_doClash E d M s t hs ht) (by omega) ?_
    refine And.intro (bI_or _) (And.intro ?_ rfl)
    unfold aDist
    rw [decide_eq_true h]; rfl
theorem r_counts (b s : Nat) (hb : b < 4) (hs : s < 12) : Mt E (d + 1) m_Mo_counts [vP 60 0, vI (nI b), vI (nI s)] M (RP (vI (bI (aCnt M b s))) M) := by
  refine Mt.go ok_Mo_counts [] 60 rfl ?_
  have e8 : nI 8 + nI b = nI (8 + b) := nI_s8 8 b
  refine xq d ok_Mo_farOf (by rw [e8]; exact r_farOf E d M (8 + b) s (by omega) hs) (Nat.lt_succ_self d) ?_
  refine xq d ok_Mo_reach (by rw [e8]; exact r_reach E d M (8 + b) (by omega)) (Nat.lt_succ_self d) ?_
  refine xq d ok_Mo_reach (by rw [e8]; exact r_reach E d M (8 + b) (by omega)) (Nat.lt_succ_self d) ?_
  refine And.intro (fun c => ?_) (fun c => ?_)
  · refine And.intro (Or.inl rfl) (And.intro ?_ rfl)
    rw [show aCnt M b s = false from decide_eq_false (Int32.not_le.mpr c)]; rfl
  · refine And.intro (Or.inr rfl) (And.intro ?_ rfl)
    rw [show aCnt M b s = true from decide_eq_true (Int32.not_lt.mp c)]; rfl
theorem lstK_succ (s k i : Nat) : lstK M s (k + 1) i = (lstK M s k i && !(aCnt M k s && bt (M.1 63 0 k) i)) := by
  unfold lstK
  rw [List.range_succ, List.all_append]
  simp only [List.all_cons, List.all_nil, Bool.and_true, Bool.and_assoc]
theorem r_list (hR : RW M) (s : Nat) (hs : s < 8) : Mt E (d + 2) m_Mo_list [vP 60 0, vI (nI s)] M (RP (vI (S32 (aLst M s))) M) := by
  obtain ⟨⟨hc, hc'⟩, -, ⟨hb, hb'⟩, -⟩ := hR
  refine Mt.go ok_Mo_list [23] 60 rfl ?_
  have key : ∀ b, b ≤ bN M → ∀ x, x = S32 (lstK M s b) → Wp E (d + 2) m_Mo_list 23 [some (vP 60 0), some (vI (nI s)), some (vI x), some (vI (nI b))] [] M (RP (vI (S32 (aLst M s))) M) := by
    refine loopUp (bN M) ?_ ?_
    · intro x hx
      refine go ok_Mo_list [23] 60 ?_
      refine qLe hb rfl (by omega) (by omega) (fun _ => And.intro (by rw [hx]; rfl) rfl) (fun c => absurd c (by omega))
    · intro b hlt ih x hx
      refine go ok_Mo_list [23] 60 ?_
      refine qLe hb rfl (by omega) (by omega) (fun h => absurd h (by omega)) (fun _ => ?_)
      refine xq (d + 1) ok_Mo_counts (r_counts E d M b s (by omega) (by omega)) (by omega) ?_
      refine brF (fun h => ?_) (fun h => ?_)
      · refine nm_r (nI_add _ _) ?_
        refine ih _ ?_
        rw [hx]
        exact S32_cg fun i _ => by rw [lstK_succ, h]; simp
      · refine ix b (show _ < 8 by omega) rfl ?_
        refine nm_r (nI_add _ _) ?_
        refine ih _ ?_
        rw [hx]
        exact S32_eq fun i hi => by rw [b_and, b_not hi, S32_at hi, lstK_succ, h]; simp
  refine ix (16 + s) (show _ < 26 by omega) (nI_s8 16 s) ?_
  refine key 0 (Nat.zero_le _) _ ?_
  refine S32_eq fun i hi => ?_
  rw [b_and, b_not hi]
  rw [hc, ones_at _ (by omega) i hi]
  unfold lstK
  simp
theorem r_isOn (s : Nat) (hs : s < 32) : Mt E (d + 1) m_Mo_isOn [vP 60 0, vI (nI s)] M (RP (vI (bI (aOn M s))) M) := by
  refine Mt.go ok_Mo_isOn [] 60 rfl ?_
  refine ix 24 (show _ < 26 by omega) rfl ?_
  refine xq d ok_Mo_has (r_has E d M _ s hs) (Nat.lt_succ_self d) ?_
  exact And.intro (bI_or _) (And.intro rfl rfl)
theorem r_disturbers (hR : RW M) (s c : Nat) (hs : s < 8) (hc : c < 100) : Mt E (d + 3) m_Mo_disturbers [vP 60 0, vI (nI s), vI (nI c)] M (RP (vI (S32 (aDsb M s c))) M) := by
  obtain ⟨-, ⟨hn, hn'⟩, -, ho⟩ := hR
  refine Mt.go ok_Mo_disturbers [5] 60 rfl ?_
  have key : ∀ t, t ≤ sN M → ∀ x, x = mkS (aDsb M s c) t → Wp E (d + 3) m_Mo_disturbers 5 [some (vP 60 0), some (vI (nI s)), some (vI (nI c)), some (vI x), some (vI (nI t))] [] M (RP (vI (S32 (aDsb M s c))) M) := by
    refine loopUp (sN M) ?_ ?_
    · intro x hx
      refine go ok_Mo_disturbers [5] 60 ?_
      refine qLe hn rfl (by omega) (by omega) (fun _ => And.intro ?_ rfl) (fun c => absurd c (by omega))
      rw [hx, mkS_full (by omega)]
      intro i hi
      unfold aDsb at hi
      simp only [Bool.and_eq_true, decide_eq_true_eq] at hi
      exact hi.1
    · intro t hlt ih x hx
      obtain ⟨ho1, ho2, ho3⟩ := ho t hlt
      have hf : aDsb M s c t = (!decide (t = s) && (aOn M t && aDist M s c t (oN M t))) := by unfold aDsb; rw [decide_eq_true hlt, Bool.true_and]
      refine go ok_Mo_disturbers [5] 60 ?_
      refine qLe hn rfl (by omega) (by omega) (fun h => absurd h (by omega)) (fun _ => ?_)
      refine cEq (by omega) (by omega) (fun h => ?_) (fun h => ?_)
      · refine nm_r (nI_add _ _) (ih _ ?_)
        rw [hx, mkS, hf, decide_eq_true h]; rfl
      · rw [decide_eq_false h] at hf
        refine xq (d + 1) ok_Mo_isOn (r_isOn E d M t (by omega)) (by omega) ?_
        refine brF (fun h1 => ?_) (fun h1 => ?_)
        · refine nm_r (nI_add _ _) (ih _ ?_)
          rw [hx, mkS, hf, h1]; rfl
        · refine ix t (show _ < 26 by omega) (by rw [nI_s8, Nat.zero_add]) ?_
          refine xq (d + 2) ok_Mo_disturb (by rw [ho1]; exact r_disturb E d M s c t (oN M t) (by omega) (by omega) hc (by omega)) (by omega) ?_
          refine brF (fun h2 => ?_) (fun h2 => ?_)
          · refine nm_r (nI_add _ _) (ih _ ?_)
            rw [hx, mkS, hf, h1, h2]; rfl
          · refine nm_r (nI_add _ _) (ih _ ?_)
            rw [hx, mkS, hf, h1, h2]; rfl
  exact key 0 (Nat.zero_le _) _ rfl
/-- a set is empty -/
theorem S32_zero {f : Nat → Bool} : S32 f = nI 0 ↔ ∀ i, i < 32 → f i = false := by
  constructor
  · intro h i hi
    rw [← S32_at (f := f) hi, h, b_0]
  · intro h
    exact (S32_eq (fun i hi => by rw [b_0, h i hi])).symm
def noDsb (M : Me) (s c : Nat) : Bool := (List.range 8).all (fun t => !aDsb M s c t)
theorem noDsb_iff (hR : RW M) (s c : Nat) : S32 (aDsb M s c) = nI 0 ↔ noDsb M s c = true := by
  rw [S32_zero]
  unfold noDsb
  rw [List.all_eq_true]
  constructor
  · intro h t ht
    rw [h t (by have := List.mem_range.mp ht; omega)]; rfl
  · intro h i hi
    by_cases h8 : i < 8
    · have := h i (List.mem_range.mpr h8)
      simpa using this
    · unfold aDsb
      have := hR.2.1.2
      rw [decide_eq_false (by omega)]; rfl
/-- a channel may be a station's: of its list, nobody disturbs there -/
def aMay (M : Me) (s c : Nat) : Bool := aLst M s (c - 1) && noDsb M s c
theorem r_mayBe (hR : RW M) (s c : Nat) (hs : s < 8) (hc0 : 0 < c) (hc : c < 31) : Mt E (d + 4) m_Mo_mayBe [vP 60 0, vI (nI s), vI (nI c)] M (RP (vI (bI (aMay M s c))) M) := by
  refine Mt.go ok_Mo_mayBe [] 60 rfl ?_
  refine xq (d + 2) ok_Mo_list (r_list E d M hR s hs) (by omega) ?_
  refine xq d ok_Mo_has (by rw [nI_m1 hc0]; exact r_has E d M _ (c - 1) (by omega)) (by omega) ?_
  rw [S32_at (by omega)]
  refine brF (fun h => ?_) (fun h => ?_)
  · refine And.intro (Or.inl rfl) (And.intro ?_ rfl)
    unfold aMay; rw [h]; rfl
  · refine xq (d + 3) ok_Mo_disturbers (r_disturbers E d M hR s c hs (by omega)) (by omega) ?_
    refine And.intro (fun q => ?_) (fun q => ?_)
    · refine And.intro (Or.inl rfl) (And.intro ?_ rfl)
      have : noDsb M s c = false := by
        cases hz : noDsb M s c with
        | false => rfl
        | true => exact absurd ((noDsb_iff M hR s c).mpr hz) q
      unfold aMay; rw [h, this]; rfl
    · refine And.intro (Or.inr rfl) (And.intro ?_ rfl)
      unfold aMay; rw [h, (noDsb_iff M hR s c).mp q]; rfl
end R1
