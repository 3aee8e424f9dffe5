/-! the reference: what its memory tells, and its leaves -/
def cN (M : Me) : Nat := (M.1 60 0 17).toNatClampNeg
def sN (M : Me) : Nat := (M.1 60 0 18).toNatClampNeg
def bN (M : Me) : Nat := (M.1 60 0 19).toNatClampNeg
def oN (M : Me) (s : Nat) : Nat := (M.1 65 0 s).toNatClampNeg
def RW (M : Me) : Prop := (M.1 60 0 17 = nI (cN M) ∧ cN M ≤ 10) ∧ (M.1 60 0 18 = nI (sN M) ∧ sN M ≤ 8) ∧ (M.1 60 0 19 = nI (bN M) ∧ bN M ≤ 4) ∧ ∀ s, s < 8 → M.1 65 0 s = nI (oN M s) ∧ oN M s ≤ 10
def aFar (M : Me) (a b : Nat) : Int32 := (M.1 62 0 (3 * a) - M.1 62 0 (3 * b)) * (M.1 62 0 (3 * a) - M.1 62 0 (3 * b)) + (M.1 62 0 (3 * a + 1) - M.1 62 0 (3 * b + 1)) * (M.1 62 0 (3 * a + 1) - M.1 62 0 (3 * b + 1))
def aRch (M : Me) (a : Nat) : Int32 := M.1 62 0 (3 * a + 2)
def aClash (M : Me) (s t : Nat) : Bool := decide (aFar M s t ≤ (aRch M s + aRch M t) * (aRch M s + aRch M t))
def aMx (M : Me) (s t : Nat) : Int32 := if aRch M t < aRch M s then aRch M s else aRch M t
def aBrush (M : Me) (s t : Nat) : Bool := decide (aFar M s t ≤ aMx M s t * aMx M s t)
def aDist (M : Me) (s c t d : Nat) : Bool := bif decide (c = d) then aClash M s t else (decide (c = d + 1) || decide (d = c + 1)) && aBrush M s t
def aCnt (M : Me) (b s : Nat) : Bool := decide (aFar M (8 + b) s ≤ aRch M (8 + b) * aRch M (8 + b))
def aOn (M : Me) (s : Nat) : Bool := bt (M.1 65 0 24) s
def lstK (M : Me) (s k : Nat) (i : Nat) : Bool := (decide (i < cN M) && !bt (M.1 65 0 (16 + s)) i) && (List.range k).all (fun b => !(aCnt M b s && bt (M.1 63 0 b) i))
def aLst (M : Me) (s : Nat) : Nat → Bool := lstK M s (bN M)
def aDsb (M : Me) (s c : Nat) : Nat → Bool := fun t => decide (t < sN M) && (!decide (t = s) && (aOn M t && aDist M s c t (oN M t)))
theorem nI_mul (a b : Nat) : nI a * nI b = nI (a * b) := pk_mul a b
theorem nI_s8 (a b : Nat) : nI a + nI b = nI (a + b) := nI_add a b
section R1
variable (E : EV) (d : Nat) (M : Me)
theorem r_in (v low high : Int32) : Mt E d m_Mo_in [vI v, vI low, vI high] M (fun r M' => r = some (vI (bI (decide (low ≤ v) && decide (v ≤ high)))) ∧ M' = M) := by
  refine Mt.go ok_Mo_in [] 20 rfl ?_
  refine And.intro (fun c => ?_) (fun c => ?_)
  · refine And.intro (Or.inl rfl) (And.intro ?_ rfl)
    have : decide (low ≤ v) = false := decide_eq_false (fun h => absurd c (Int32.not_lt.mpr h))
    rw [this]; rfl
  · have c1 : decide (low ≤ v) = true := decide_eq_true (Int32.not_lt.mp c)
    refine And.intro (fun e => ?_) (fun e => ?_)
    · refine And.intro (Or.inl rfl) (And.intro ?_ rfl)
      have : decide (v ≤ high) = false := decide_eq_false (fun h => absurd e (Int32.not_lt.mpr h))
      rw [this, Bool.and_false]; rfl
    · refine And.intro (Or.inr rfl) (And.intro ?_ rfl)
      rw [c1, decide_eq_true (Int32.not_lt.mp e)]; rfl
theorem r_has (x : Int32) (j : Nat) (hj : j < 32) : Mt E d m_Mo_has [vI x, vI (nI j)] M (fun r M' => r = some (vI (bI (bt x j))) ∧ M' = M) := by
  refine Mt.go ok_Mo_has [] 20 rfl ?_
  refine And.intro (fun c => ?_) (fun c => ?_)
  · refine And.intro (Or.inl rfl) (And.intro ?_ rfl)
    rw [hasL x hj] at c
    have : bt x j = false := by cases h : bt x j with
      | false => rfl
      | true => rw [h] at c; exact absurd rfl c
    rw [this]; rfl
  · refine And.intro (Or.inr rfl) (And.intro ?_ rfl)
    rw [hasL x hj] at c
    have : bt x j = true := by cases h : bt x j with
      | true => rfl
      | false => rw [h] at c; exact absurd c (by decide)
    rw [this]; rfl
theorem r_reach (a : Nat) (ha : a < 12) : Mt E d m_Mo_reach [vP 60 0, vI (nI a)] M (fun r M' => r = some (vI (aRch M a)) ∧ M' = M) := by
  refine Mt.go ok_Mo_reach [] 20 rfl ?_
  refine ix (3 * a + 2) (show _ < 72 by omega) ?_ (And.intro rfl rfl)
  rw [nI_mul, nI_s8]
theorem r_farOf (a b : Nat) (ha : a < 12) (hb : b < 12) : Mt E d m_Mo_farOf [vP 60 0, vI (nI a), vI (nI b)] M (fun r M' => r = some (vI (aFar M a b)) ∧ M' = M) := by
  refine Mt.go ok_Mo_farOf [] 60 rfl ?_
  refine ix (3 * a) (show _ < 72 by omega) (nI_mul 3 a) ?_
  refine ix (3 * b) (show _ < 72 by omega) (nI_mul 3 b) ?_
  refine ix (3 * a + 1) (show _ < 72 by omega) (by rw [nI_mul, nI_s8]) ?_
  refine ix (3 * b + 1) (show _ < 72 by omega) (by rw [nI_mul, nI_s8]) ?_
  exact And.intro rfl rfl
theorem r_doClash (s t : Nat) (hs : s < 12) (ht : t < 12) : Mt E (d + 1) m_Mo_doClash [vP 60 0, vI (nI s), vI (nI t)] M (fun r M' => r = some (vI (bI (aClash M s t))) ∧ M' = M) := by
  refine Mt.go ok_Mo_doClash [] 60 rfl ?_
  refine xc d ok_Mo_farOf (r_farOf E d M s t hs ht) (Nat.lt_succ_self d) ?_
  rintro r M' ⟨rfl, rfl⟩
  refine xc d ok_Mo_reach (r_reach E d M' s hs) (Nat.lt_succ_self d) ?_
  rintro r M' ⟨rfl, rfl⟩
  refine xc d ok_Mo_reach (r_reach E d M' t ht) (Nat.lt_succ_self d) ?_
  rintro r M' ⟨rfl, rfl⟩
  refine xc d ok_Mo_reach (r_reach E d M' s hs) (Nat.lt_succ_self d) ?_
  rintro r M' ⟨rfl, rfl⟩
  refine xc d ok_Mo_reach (r_reach E d M' t ht) (Nat.lt_succ_self d) ?_
  rintro r M' ⟨rfl, rfl⟩
  refine And.intro (fun c => ?_) (fun c => ?_)
  · refine And.intro (Or.inl rfl) (And.intro ?_ rfl)
    rw [show aClash M' s t = false from decide_eq_false (Int32.not_le.mpr c)]; rfl
  · refine And.intro (Or.inr rfl) (And.intro ?_ rfl)
    rw [show aClash M' s t = true from decide_eq_true (Int32.not_lt.mp c)]; rfl
end R1
