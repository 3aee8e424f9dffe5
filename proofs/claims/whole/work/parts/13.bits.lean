/-! sets of numbers as bits of an Int32 -/
def bt (x : Int32) (i : Nat) : Bool := x.toBitVec.getLsbD i
theorem b_ext {x y : Int32} (h : ∀ i, i < 32 → bt x i = bt y i) : x = y := Int32.toBitVec_inj.mp (BitVec.eq_of_getLsbD_eq (fun i hi => h i hi))
theorem b_or (x y : Int32) (i : Nat) : bt (x ||| y) i = (bt x i || bt y i) := by unfold bt; rw [Int32.toBitVec_or, BitVec.getLsbD_or]
theorem b_and (x y : Int32) (i : Nat) : bt (x &&& y) i = (bt x i && bt y i) := by unfold bt; rw [Int32.toBitVec_and, BitVec.getLsbD_and]
theorem b_xor (x y : Int32) (i : Nat) : bt (x ^^^ y) i = (bt x i ^^ bt y i) := by unfold bt; rw [Int32.toBitVec_xor, BitVec.getLsbD_xor]
theorem b_big {x : Int32} {i : Nat} (h : 32 ≤ i) : bt x i = false := BitVec.getLsbD_of_ge _ _ h
theorem b_m1 : ∀ i, i < 32 → bt (-(nI 1)) i = true := by decide +kernel
theorem b_not {x : Int32} {i : Nat} (h : i < 32) : bt (x ^^^ -(nI 1)) i = !bt x i := by rw [b_xor, b_m1 i h]; cases bt x i <;> rfl
theorem b_0 (i : Nat) : bt (nI 0) i = false := BitVec.getLsbD_zero
theorem s_l : ∀ n, n < 32 → ((nI n &&& 31).toBitVec.smod 32).toNat = n := by decide +kernel
theorem b_shl (n : Nat) (hn : n < 32) (x : Int32) {i : Nat} (hi : i < 32) : bt (x <<< (nI n &&& 31)) i = (decide (n ≤ i) && bt x (i - n)) := by
  unfold bt
  rw [Int32.toBitVec_shiftLeft]
  show (x.toBitVec <<< ((nI n &&& 31).toBitVec.smod 32).toNat).getLsbD i = _
  rw [s_l n hn, BitVec.getLsbD_shiftLeft]
  rcases Nat.lt_or_ge i n with h | h
  · simp [h, Nat.not_le.mpr h]
  · simp [hi, h, Nat.not_lt.mpr h]
theorem b_sshr (n : Nat) (hn : n < 32) (x : Int32) {i : Nat} (hi : i < 32) : bt (x >>> (nI n &&& 31)) i = if n + i < 32 then bt x (n + i) else bt x 31 := by
  unfold bt
  rw [Int32.toBitVec_shiftRight]
  show (x.toBitVec.sshiftRight ((nI n &&& 31).toBitVec.smod 32).toNat).getLsbD i = _
  rw [s_l n hn, BitVec.getLsbD_sshiftRight, BitVec.msb_eq_getLsbD_last]
  simp [hi]
theorem b_nI (n : Nat) {i : Nat} (h : i < 32) : bt (nI n) i = n.testBit i := by
  show (BitVec.ofNat 32 n).getLsbD i = _
  rw [BitVec.getLsbD_ofNat]
  simp [h]
theorem b_one : ∀ i, i < 32 → bt (nI 1) i = decide (i = 0) := by decide +kernel
theorem b_bI (b : Bool) {i : Nat} (h : i < 32) : bt (bI b) i = (b && decide (i = 0)) := by
  cases b
  · exact b_0 i
  · exact b_one i h
/-- one bit, as a truth -/
theorem hasL (x : Int32) {j : Nat} (h : j < 32) : (x >>> (nI j &&& 31)) &&& nI 1 = bI (bt x j) := by
  apply b_ext
  intro i hi
  rw [b_and, b_one i hi, b_bI _ hi, b_sshr j h x hi]
  by_cases e : i = 0
  · subst e
    rw [if_pos (by omega), Nat.add_zero]
  · simp [e]
/-- the set of one number -/
def b1 (j : Nat) : Int32 := nI 1 <<< (nI j &&& 31)
theorem b1_at {j i : Nat} (hj : j < 32) (hi : i < 32) : bt (b1 j) i = decide (i = j) := by
  unfold b1
  rw [b_shl j hj _ hi, b_one _ (by omega)]
  by_cases e : i = j
  · subst e; simp
  · by_cases h : j ≤ i
    · have : ¬ i - j = 0 := by omega
      simp [e, this]
    · simp [e, h]
/-- a set told by a predicate -/
def mkS (f : Nat → Bool) : Nat → Int32
  | 0 => nI 0
  | n + 1 => bif f n then mkS f n ||| b1 n else mkS f n
theorem mkS_at (f : Nat → Bool) : ∀ (n i : Nat), n ≤ 32 → i < 32 → bt (mkS f n) i = (decide (i < n) && f i)
  | 0, i, _, _ => by rw [mkS, b_0]; simp
  | n + 1, i, hn, hi => by
    have ih := mkS_at f n i (by omega) hi
    rw [mkS]
    cases hf : f n
    · rw [cond_false, ih]
      by_cases e : i = n
      · subst e; simp [hf]
      · have : (i < n + 1) = (i < n) := propext (by omega)
        simp only [this]
    · rw [cond_true, b_or, ih, b1_at (by omega) hi]
      by_cases e : i = n
      · subst e; simp [hf]
      · have : (i < n + 1) = (i < n) := propext (by omega)
        simp [e, this]
def S32 (f : Nat → Bool) : Int32 := mkS f 32
theorem S32_at {f : Nat → Bool} {i : Nat} (h : i < 32) : bt (S32 f) i = f i := by
  unfold S32
  rw [mkS_at f 32 i (Nat.le_refl _) h]
  simp [h]
theorem S32_eq {f : Nat → Bool} {x : Int32} (h : ∀ i, i < 32 → bt x i = f i) : x = S32 f := b_ext fun i hi => by rw [h i hi, S32_at hi]
theorem S32_cg {f g : Nat → Bool} (h : ∀ i, i < 32 → f i = g i) : S32 f = S32 g := b_ext fun i hi => by rw [S32_at hi, S32_at hi, h i hi]
theorem S32_bt (x : Int32) : S32 (bt x) = x := (S32_eq fun _ _ => rfl).symm
theorem mkS_S32 {f : Nat → Bool} {n : Nat} (hn : n ≤ 32) : mkS f n = S32 (fun i => decide (i < n) && f i) := S32_eq fun i hi => mkS_at f n i hn hi
/-- the numbers below n -/
theorem ones_at : ∀ n, n < 31 → ∀ i, i < 32 → bt (nI 1 <<< (nI n &&& 31) - nI 1) i = decide (i < n) := by decide +kernel
theorem ones_eq : ∀ n, n < 31 → nI 1 <<< (nI n &&& 31) - nI 1 = nI (2 ^ n - 1) := by decide +kernel
theorem b1_nI : ∀ n, n < 31 → b1 n = nI (2 ^ n) := by decide +kernel
theorem nI_sub1 {c : Nat} : nI (c + 1) - nI 1 = nI c := nI_pred c
theorem nI_m1 {c : Nat} (h : 0 < c) : nI c - nI 1 = nI (c - 1) := by
  obtain ⟨k, rfl⟩ : ∃ k, c = k + 1 := ⟨c - 1, by omega⟩
  exact nI_pred k
