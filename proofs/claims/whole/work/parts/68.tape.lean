/-! the class: the tape, feed -/
def by8 (x : Int32) : Int32 := x.toInt8.toInt32.toInt8.toInt32
theorem b_i8 (x : Int32) {i : Nat} (h : i < 8) : bt x.toInt8.toInt32 i = bt x i := by
  unfold bt
  rw [Int8.toBitVec_toInt32, Int32.toBitVec_toInt8, BitVec.getLsbD_signExtend, BitVec.getLsbD_signExtend]
  simp [h, show i < 32 by omega]
theorem b_255 {i : Nat} (h : i < 32) : bt (nI 255) i = decide (i < 8) := by
  have : ∀ i, i < 32 → bt (nI 255) i = decide (i < 8) := by decide +kernel
  exact this i h
theorem by8_and (x : Int32) : by8 x &&& nI 255 = x &&& nI 255 := by
  apply b_ext
  intro i hi
  rw [b_and, b_and, b_255 hi]
  by_cases h : i < 8
  · unfold by8
    rw [b_i8 _ h, b_i8 _ h]
  · rw [decide_eq_false h, Bool.and_false, Bool.and_false]
/-- four bytes more, from c on -/
def AdP (M M' : Me) (c : Nat) (w : Int32) : Prop := (∀ i r k, ¬ (i = 1 ∧ k = 1) → ¬ (i = 2 ∧ c ≤ k) → M'.1 i r k = M.1 i r k) ∧ M'.2 = M.2 ∧ M'.1 1 0 1 = nI (c + 4) ∧ ∀ j, j < 4 → M'.1 2 0 (c + j) &&& nI 255 = by4 w j
def FdC (M M' : Me) (c : Nat) (a b e f g : Int32) : Prop := (∀ i r k, ¬ (i = 1 ∧ k = 1) → ¬ (i = 2 ∧ c ≤ k) → M'.1 i r k = M.1 i r k) ∧ M'.2 = M.2 ∧ M'.1 1 0 1 = nI (c + 20) ∧ ∀ j, j < 20 → M'.1 2 0 (c + j) &&& nI 255 = fdB a b e f g j
section F1
variable (E : EV) (d : Nat)
theorem c_addNumber (M : Me) (c : Nat) (hc : M.1 1 0 1 = nI c) (h : c + 4 ≤ 700) (w : Int32) : Mt E d m_Tape_addNumber [vP 1 0, vI w] M (fun r M' => r = none ∧ AdP M M' c w) := by
  have key : ∀ j, j ≤ 4 → ∀ N, (∀ i r k, ¬ (i = 1 ∧ k = 1) → ¬ (i = 2 ∧ c ≤ k) → N.1 i r k = M.1 i r k) → N.2 = M.2 → N.1 1 0 1 = nI (c + j) → (∀ u, u < j → N.1 2 0 (c + u) &&& nI 255 = by4 w u) → ∀ sh, sh = nI 24 - nI (8 * j) → Wp E d m_Tape_addNumber 3 [some (vP 1 0), some (vI w), some (vI sh)] [] N (fun r M' => r = none ∧ AdP M M' c w) := by
    refine loopUp 4 ?_ ?_
    · rintro N h1 h2 h3 h4 sh rfl
      refine go ok_Tape_addNumber [] 60 ?_
      refine And.intro (fun _ => ?_) (fun e => absurd (by decide) e)
      exact And.intro rfl ⟨h1, h2, h3, h4⟩
    · rintro j hj ih N h1 h2 h3 h4 sh rfl
      have esh : nI 24 - nI (8 * j) = nI (24 - 8 * j) := pk_sub (by omega)
      refine go ok_Tape_addNumber [3] 60 ?_
      rw [esh]
      refine cLt (by omega) (by omega) (fun q => absurd q (by omega)) (fun _ => ?_)
      refine qLe rfl h3 (by omega) (by omega) (fun q => absurd q (by omega)) (fun _ => ?_)
      refine ix (c + j) (show _ < 700 by omega) h3 ?_
      have hs : ∀ y, y = nI (24 - 8 * j) - nI 8 → Wp E d m_Tape_addNumber 3 [some (vP 1 0), some (vI w), some (vI y)] [] (sI (sI N 2 0 (c + j) (by8 (w >>> (nI (24 - 8 * j) &&& 31)))) 1 0 1 (N.1 1 0 1 + nI 1)) (fun r M' => r = none ∧ AdP M M' c w) := by
        rintro y hy
        refine ih (sI (sI N 2 0 (c + j) (by8 (w >>> (nI (24 - 8 * j) &&& 31)))) 1 0 1 (N.1 1 0 1 + nI 1)) (fun i r k n1 n2 => ?_) h2 ?_ (fun u hu => ?_) y ?_
        · rw [sI_at, if_neg (by omega), sI_at, if_neg (by omega)]; exact h1 i r k n1 n2
        · rw [sI_at, if_pos ⟨rfl, rfl, rfl⟩, h3, nI_add]; rfl
        · rw [sI_at, if_neg (by omega), sI_at]
          by_cases e : u = j
          · rw [if_pos ⟨rfl, rfl, by omega⟩, by8_and, e]; rfl
          · rw [if_neg (by omega)]; exact h4 u (by omega)
        · rw [hy]
          have e2 : ∀ j, j < 4 → nI (24 - 8 * j) - nI 8 = nI 24 - nI (8 * (j + 1)) := by decide
          exact e2 j hj
      intro y hy
      exact hs y hy
  refine Mt.go ok_Tape_addNumber [3] 60 rfl ?_
  exact key 0 (by omega) M (fun _ _ _ _ _ => rfl) rfl hc (fun u hu => absurd hu (Nat.not_lt_zero _)) _ (by decide)
theorem c_feed (M : Me) (c : Nat) (hc : M.1 1 0 1 = nI c) (h7 : c ≤ 700) (a b e f g : Int32) : Mt E (d + 1) m_CS_feed [vP 0 0, vI a, vI b, vI e, vI f, vI g] M (fun r M' => (680 < c ∧ r = some (vI (-(nI 1))) ∧ M' = M) ∨ (c ≤ 680 ∧ r = some (vI (nI (c + 20))) ∧ FdC M M' c a b e f g)) := by
  have hroom : Mt E d m_Tape_hasRoomFor [vP 1 0, vI (nI 20)] M (RP (vI (bI (decide (c + 20 ≤ 700)))) M) := by
    refine Mt.go ok_Tape_hasRoomFor [] 60 rfl ?_
    have e : M.1 1 0 1 + nI 20 = nI (c + 20) := by rw [hc, nI_add]
    refine qLt rfl e (by omega) (by omega) (fun q => ?_) (fun q => ?_)
    · refine And.intro (Or.inl rfl) (And.intro ?_ rfl)
      rw [decide_eq_false (by omega)]; rfl
    · refine And.intro (Or.inr rfl) (And.intro ?_ rfl)
      rw [decide_eq_true q]; rfl
  refine Mt.go ok_CS_feed [] 60 rfl ?_
  refine xq d ok_Tape_hasRoomFor hroom (by omega) ?_
  refine brN (fun q => ?_) (fun q => ?_)
  · have q := of_decide_eq_true q
    refine xc d ok_Tape_addNumber (c_addNumber E d M c hc (by omega) a) (by omega) ?_
    rintro r M1 ⟨rfl, a1, a2, a3, a4⟩
    refine xc d ok_Tape_addNumber (c_addNumber E d M1 (c + 4) a3 (by omega) b) (by omega) ?_
    rintro r M2 ⟨rfl, b1', b2, b3, b4⟩
    refine xc d ok_Tape_addNumber (c_addNumber E d M2 (c + 4 + 4) b3 (by omega) e) (by omega) ?_
    rintro r M3 ⟨rfl, c1, c2, c3, c4⟩
    refine xc d ok_Tape_addNumber (c_addNumber E d M3 (c + 4 + 4 + 4) c3 (by omega) f) (by omega) ?_
    rintro r M4 ⟨rfl, d1, d2, d3, d4⟩
    refine xc d ok_Tape_addNumber (c_addNumber E d M4 (c + 4 + 4 + 4 + 4) d3 (by omega) g) (by omega) ?_
    rintro r M5 ⟨rfl, e1, e2, e3, e4⟩
    refine Or.inr ⟨by omega, ?_, fun i r k n1 n2 => ?_, ?_, ?_, fun j hj => ?_⟩
    · show some (vI (M5.1 1 0 1)) = _
      rw [e3]
    · rw [e1 i r k n1 (by omega), d1 i r k n1 (by omega), c1 i r k n1 (by omega), b1' i r k n1 (by omega), a1 i r k n1 n2]
    · rw [e2, d2, c2, b2, a2]
    · rw [e3]
    · unfold fdB fdS
      rcases Nat.lt_or_ge j 4 with w | w
      · rw [if_pos w, e1 2 0 _ (by omega) (by omega), d1 2 0 _ (by omega) (by omega), c1 2 0 _ (by omega) (by omega), b1' 2 0 _ (by omega) (by omega), a4 j w, show j % 4 = j by omega]
      · rw [if_neg (by omega)]
        rcases Nat.lt_or_ge j 8 with w2 | w2
        · rw [if_pos w2, e1 2 0 _ (by omega) (by omega), d1 2 0 _ (by omega) (by omega), c1 2 0 _ (by omega) (by omega), show c + j = c + 4 + (j - 4) by omega, b4 (j - 4) (by omega), show j % 4 = j - 4 by omega]
        · rw [if_neg (by omega)]
          rcases Nat.lt_or_ge j 12 with w3 | w3
          · rw [if_pos w3, e1 2 0 _ (by omega) (by omega), d1 2 0 _ (by omega) (by omega), show c + j = c + 4 + 4 + (j - 8) by omega, c4 (j - 8) (by omega), show j % 4 = j - 8 by omega]
          · rw [if_neg (by omega)]
            rcases Nat.lt_or_ge j 16 with w4 | w4
            · rw [if_pos w4, e1 2 0 _ (by omega) (by omega), show c + j = c + 4 + 4 + 4 + (j - 12) by omega, d4 (j - 12) (by omega), show j % 4 = j - 12 by omega]
            · rw [if_neg (by omega), show c + j = c + 4 + 4 + 4 + 4 + (j - 16) by omega, e4 (j - 16) (by omega), show j % 4 = j - 16 by omega]
  · have q := of_decide_eq_false q
    exact Or.inl ⟨by omega, rfl, rfl⟩
end F1
