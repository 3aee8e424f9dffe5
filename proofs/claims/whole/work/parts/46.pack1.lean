/-! the class: the packer's steps -/
def DD (cl br : Nat → Int32) : DT := fun s c t e => bif decide (c = e) then bt (cl s) t else (decide (c = e + 1) || decide (e = c + 1)) && bt (br s) t
def lfB (M : Me) (δ : Nat) : Nat → Nat → Bool := fun t i => bt (M.1 19 δ t) i
def PkD (M : Me) (cl br : Nat → Int32) : Prop := ∀ s, s < 8 → M.1 16 0 s = cl s ∧ M.1 17 0 s = br s
def Lw (M : Me) (δ : Nat) (set : Int32) : Prop := ∀ t, t < 8 → bt set t = true → ∀ i, 10 ≤ i → bt (M.1 19 δ t) i = false
def F19 (δ : Nat) (M M' : Me) : Prop := (∀ i r k, ¬ (i = 19 ∧ δ < r) → M'.1 i r k = M.1 i r k) ∧ M'.2 = M.2
theorem F19.rf (δ : Nat) (M : Me) : F19 δ M M := ⟨fun _ _ _ _ => rfl, rfl⟩
theorem F19.tr {δ : Nat} {M M' M'' : Me} (h : F19 δ M M') (h' : F19 δ M' M'') : F19 δ M M'' := ⟨fun i r k e => (h'.1 i r k e).trans (h.1 i r k e), h'.2.trans h.2⟩
theorem F19.up {δ : Nat} {M M' : Me} (h : F19 (δ + 1) M M') : F19 δ M M' := ⟨fun i r k e => h.1 i r k (fun q => e ⟨q.1, by omega⟩), h.2⟩
theorem F19.pk {δ : Nat} {M M' : Me} (h : F19 δ M M') {cl br : Nat → Int32} (hp : PkD M cl br) : PkD M' cl br := fun s hs => ⟨(h.1 16 0 s (by omega)).trans (hp s hs).1, (h.1 17 0 s (by omega)).trans (hp s hs).2⟩
theorem F19.lf {δ : Nat} {M M' : Me} (h : F19 δ M M') : lfB M' δ = lfB M δ := by
  funext t i
  unfold lfB
  rw [h.1 19 δ t (by omega)]
theorem F19.at {δ : Nat} {M M' : Me} (h : F19 δ M M') (t : Nat) : M'.1 19 δ t = M.1 19 δ t := h.1 19 δ t (by omega)
theorem ten_of {x : Int32} (h : ∀ i, 10 ≤ i → bt x i = false) : ∃ k, k < 1024 ∧ x = nI k := by
  refine ⟨x.toBitVec.toNat, ?_, ?_⟩
  · exact Nat.lt_pow_two_of_testBit _ (n := 10) (fun i hi => h i hi)
  · apply b_ext
    intro i hi
    rw [b_nI _ hi]
    rfl
def tkA (cl : Nat → Int32) (s c t : Nat) (x : Int32) : Int32 := bif bt (cl s) t then x &&& (b1 (c - 1) ^^^ -(nI 1)) else x
def tkB (br : Nat → Int32) (s c t : Nat) (x : Int32) : Int32 := bif bt (br s) t then x &&& ((b1 (c - 1) <<< (nI 1 &&& 31) ||| b1 (c - 1) >>> (nI 1 &&& 31)) ^^^ -(nI 1)) else x
def tkV (cl br : Nat → Int32) (s c t : Nat) (x : Int32) : Int32 := tkB br s c t (tkA cl s c t x)
theorem tkV_at {cl br : Nat → Int32} {s c t : Nat} {x : Int32} (hc : 1 ≤ c) (hc2 : c ≤ 10) {i : Nat} (hi : i < 32) : bt (tkV cl br s c t x) i = (bt x i && !DD cl br s c t (i + 1)) := by
  have e1 : bt (b1 (c - 1)) i = decide (c = i + 1) := by
    rw [b1_at (by omega) hi]
    exact decide_eq_decide.mpr (by omega)
  have e2 : bt (b1 (c - 1) <<< (nI 1 &&& 31)) i = decide (i = c) := by
    rw [b_shl 1 (by omega) _ hi]
    by_cases h : 1 ≤ i
    · rw [decide_eq_true h, Bool.true_and, b1_at (by omega) (by omega)]
      exact decide_eq_decide.mpr (by omega)
    · rw [decide_eq_false h, decide_eq_false (by omega)]; rfl
  have e3 : bt (b1 (c - 1) >>> (nI 1 &&& 31)) i = decide (c = i + 2) := by
    rw [b_sshr 1 (by omega) _ hi]
    by_cases h : 1 + i < 32
    · rw [if_pos h, b1_at (by omega) h]
      exact decide_eq_decide.mpr (by omega)
    · rw [if_neg h, b1_at (by omega) (by omega), decide_eq_false (by omega), decide_eq_false (by omega)]
  have ea : bt (tkA cl s c t x) i = (bt x i && !(decide (c = i + 1) && bt (cl s) t)) := by
    unfold tkA
    cases bt (cl s) t with
    | false => simp
    | true => rw [cond_true, b_and, b_not hi, e1, Bool.and_true]
  have eb : bt (tkB br s c t (tkA cl s c t x)) i = (bt (tkA cl s c t x) i && !((decide (i = c) || decide (c = i + 2)) && bt (br s) t)) := by
    unfold tkB
    cases bt (br s) t with
    | false => simp
    | true => rw [cond_true, b_and, b_not hi, b_or, e2, e3, Bool.and_true]
  unfold tkV
  rw [eb, ea]
  unfold DD
  by_cases h : c = i + 1
  · rw [decide_eq_true h, decide_eq_false (show ¬ i = c by omega), decide_eq_false (show ¬ c = i + 2 by omega)]
    simp
  · rw [decide_eq_false h, show decide (c = i + 1 + 1) = decide (c = i + 2) from decide_eq_decide.mpr (by omega), show decide (i + 1 = c + 1) = decide (i = c) from decide_eq_decide.mpr (by omega), Bool.or_comm (decide (c = i + 2))]
    simp
theorem bc10 : ∀ k, k < 1024 → aBits (nI k) 16 ≤ nI 10 := by decide +kernel
def outS (set : Int32) (s : Nat) : Int32 := set &&& (b1 s ^^^ -(nI 1))
theorem outS_at {set : Int32} {s t : Nat} (hs : s < 32) (ht : t < 32) : bt (outS set s) t = (bt set t && !decide (t = s)) := by
  unfold outS
  rw [b_and, b_not ht, b1_at hs ht]
section K1
variable (E : EV) (d : Nat) (M : Me)
theorem c_begin (set : Int32) (m : Nat) (hm : m ≤ 10) : Mt E (d + 1) m_Packer_begin [vP 14 0, vI set, vI (nI m)] M (fun r M' => r = none ∧ M' = setR M 19 0 0 8 (fun s => bif bt set s then M.1 15 0 s &&& nI (2 ^ m - 1) else nI 0)) := by
  have key : ∀ k, k ≤ 8 → ∀ N, N = setR M 19 0 0 k (fun s => bif bt set s then M.1 15 0 s &&& nI (2 ^ m - 1) else nI 0) → Wp E (d + 1) m_Packer_begin 2 [some (vP 14 0), some (vI set), some (vI (nI m)), some (vI (nI k))] [] N (fun r M' => r = none ∧ M' = setR M 19 0 0 8 (fun s => bif bt set s then M.1 15 0 s &&& nI (2 ^ m - 1) else nI 0)) := by
    refine loopUp 8 ?_ ?_
    · rintro N rfl
      refine go ok_Packer_begin [2] 60 ?_
      refine cLe (by omega) (by omega) (fun _ => ?_) (fun q => absurd q (by omega))
      exact And.intro rfl rfl
    · rintro k hk ih N rfl
      refine go ok_Packer_begin [2, 40] 60 ?_
      refine cLe (by omega) (by omega) (fun q => absurd q (by omega)) (fun _ => ?_)
      refine ix 0 (show _ < 9 by omega) rfl ?_
      have fin : ∀ v, v = (bif bt set k then M.1 15 0 k &&& nI (2 ^ m - 1) else nI 0) → Wp E (d + 1) m_Packer_begin 40 [some (vP 14 0), some (vI set), some (vI (nI m)), some (vI (nI k))] [vI v, vI (nI k), vP 19 0] (setR M 19 0 0 k (fun s => bif bt set s then M.1 15 0 s &&& nI (2 ^ m - 1) else nI 0)) (fun r M' => r = none ∧ M' = setR M 19 0 0 8 (fun s => bif bt set s then M.1 15 0 s &&& nI (2 ^ m - 1) else nI 0)) := by
        rintro v rfl
        refine go ok_Packer_begin [2] 60 ?_
        refine ix k hk rfl ?_
        refine nm_r (nI_add _ _) (ih _ ?_)
        rw [← setR_step, Nat.zero_add]
      refine xq d ok_CS_has (c_has E d _ set k (by omega)) (by omega) ?_
      refine brF (fun q => ?_) (fun q => ?_)
      · exact fin _ (by rw [q]; rfl)
      · refine ix k (show _ < 8 by omega) rfl ?_
        refine xq d ok_CS_bit (c_bit E d _ m) (by omega) ?_
        have e : b1 m - nI 1 = nI (2 ^ m - 1) := ones_eq m (by omega)
        exact fin (M.1 15 0 k &&& (b1 m - nI 1)) (by rw [q, e]; rfl)
  refine Mt.go ok_Packer_begin [2] 60 rfl ?_
  exact key 0 (by omega) _ (setR_0 _ _ _ _ _).symm
theorem c_limit (s : Nat) (hs : s < 8) (x : Int32) : Mt E d m_Packer_limit [vP 14 0, vI (nI s), vI x] M (fun r M' => r = none ∧ M' = sI M 19 0 s (M.1 19 0 s &&& x)) := by
  refine Mt.go ok_Packer_limit [] 60 rfl ?_
  refine cLt (by omega) (by omega) (fun q => absurd q (by omega)) (fun _ => ?_)
  refine cLe (by omega) (by omega) (fun q => absurd q (by omega)) (fun _ => ?_)
  refine ix 0 (show _ < 9 by omega) rfl ?_
  refine ix s hs rfl ?_
  refine ix s hs rfl ?_
  exact And.intro rfl rfl
theorem c_tightest (δ : Nat) (hδ : δ ≤ 8) (set : Int32) (hw : Lw M δ set) (hne : ∃ t, t < 8 ∧ bt set t = true) : Mt E (d + 1) m_Packer_tightest [vP 14 0, vI (nI δ), vI set] M (fun r M' => M' = M ∧ ∃ s, s < 8 ∧ bt set s = true ∧ r = some (vI (nI s))) := by
  have key : ∀ t, t ≤ 8 → ∀ f l, ((f = -(nI 1) ∧ l = nI 11 ∧ ∀ u, u < t → bt set u = false) ∨ (∃ s, s < t ∧ bt set s = true ∧ f = nI s)) → Wp E (d + 1) m_Packer_tightest 21 [some (vP 14 0), some (vI (nI δ)), some (vI set), some (vI f), some (vI l), some (vI (nI t))] [] M (fun r M' => M' = M ∧ ∃ s, s < 8 ∧ bt set s = true ∧ r = some (vI (nI s))) := by
    refine loopUp 8 ?_ ?_
    · intro f l h
      refine go ok_Packer_tightest [] 60 ?_
      refine cLe (by omega) (by omega) (fun _ => ?_) (fun q => absurd q (by omega))
      rcases h with ⟨-, -, h⟩ | ⟨s, h1, h2, rfl⟩
      · obtain ⟨t, ht, hb⟩ := hne
        rw [h t ht] at hb; cases hb
      · exact ⟨rfl, s, h1, h2, rfl⟩
    · intro t ht ih f l h
      refine go ok_Packer_tightest [21] 60 ?_
      refine cLe (by omega) (by omega) (fun q => absurd q (by omega)) (fun _ => ?_)
      refine xq d ok_CS_has (c_has E d M set t (by omega)) (by omega) ?_
      refine brF (fun q => ?_) (fun q => ?_)
      · refine nm_r (nI_add _ _) (ih _ _ ?_)
        rcases h with ⟨h1, h2, h3⟩ | ⟨s, h1, h2, h3⟩
        · refine Or.inl ⟨h1, h2, fun u hu => ?_⟩
          by_cases e : u = t
          · rw [e]; exact q
          · exact h3 u (by omega)
        · exact Or.inr ⟨s, by omega, h2, h3⟩
      · refine ix δ (show _ < 9 by omega) rfl ?_
        refine ix t (show _ < 8 by omega) rfl ?_
        obtain ⟨k, hk, ek⟩ := ten_of (hw t ht q)
        have hx := c_bitCount E d M k hk
        rw [← ek] at hx
        refine xq d ok_Integer_bitCount hx (by omega) ?_
        have stp : ∀ l', Wp E (d + 1) m_Packer_tightest 21 [some (vP 14 0), some (vI (nI δ)), some (vI set), some (vI (nI t)), some (vI l'), some (vI (nI (t + 1)))] [] M (fun r M' => M' = M ∧ ∃ s, s < 8 ∧ bt set s = true ∧ r = some (vI (nI s))) := fun l' => ih _ _ (Or.inr ⟨t, by omega, q, rfl⟩)
        refine And.intro (fun w => ?_) (fun w => ?_)
        · rcases h with ⟨h1, h2, h3⟩ | ⟨s, h1, h2, h3⟩
          · rw [ek, h2] at w
            have w2 := Int32.le_trans w (bc10 k hk)
            exact absurd w2 (by decide)
          · exact nm_r (nI_add _ _) (ih _ _ (Or.inr ⟨s, by omega, h2, h3⟩))
        · refine ix δ (show _ < 9 by omega) rfl ?_
          refine ix t (show _ < 8 by omega) rfl ?_
          refine xq d ok_Integer_bitCount hx (by omega) ?_
          exact nm_r (nI_add _ _) (stp _)
  refine Mt.go ok_Packer_tightest [21] 60 rfl ?_
  refine cLt (by omega) (by omega) (fun q => absurd q (by omega)) (fun _ => ?_)
  refine cLe (by omega) (by omega) (fun _ => ?_) (fun q => absurd q (by omega))
  exact key 0 (by omega) _ _ (Or.inl ⟨rfl, rfl, fun u hu => absurd hu (Nat.not_lt_zero _)⟩)
theorem c_take {cl br : Nat → Int32} (hp : PkD M cl br) (δ : Nat) (hδ : δ < 8) (set : Int32) (s c : Nat) (hs : s < 8) (hc : 1 ≤ c) (hc2 : c ≤ 10) : Mt E (d + 1) m_Packer_take [vP 14 0, vI (nI δ), vI set, vI (nI s), vI (b1 (c - 1))] M (fun r M' => F19 δ M M' ∧ ((r = some (vI (nI 0)) ∧ ∃ t, t < 8 ∧ bt (outS set s) t = true ∧ tkV cl br s c t (M.1 19 δ t) = nI 0) ∨ (r = some (vI (nI 1)) ∧ ∀ t, t < 8 → bt (outS set s) t = true → M'.1 19 (δ + 1) t = tkV cl br s c t (M.1 19 δ t)))) := by
  generalize hQ : (fun r M' => F19 δ M M' ∧ ((r = some (vI (nI 0)) ∧ ∃ t, t < 8 ∧ bt (outS set s) t = true ∧ tkV cl br s c t (M.1 19 δ t) = nI 0) ∨ (r = some (vI (nI 1)) ∧ ∀ t, t < 8 → bt (outS set s) t = true → M'.1 19 (δ + 1) t = tkV cl br s c t (M.1 19 δ t))) : Option AV → Me → Prop) = Q
  have key : ∀ t, t ≤ 8 → ∀ N, F19 δ M N → (∀ u, u < t → bt (outS set s) u = true → N.1 19 (δ + 1) u = tkV cl br s c u (M.1 19 δ u)) → ∀ j9, Wp E (d + 1) m_Packer_take 53 [some (vP 14 0), some (vI (nI δ)), some (vI set), some (vI (nI s)), some (vI (b1 (c - 1))), some (vP 19 δ), some (vP 19 (δ + 1)), some (vI (outS set s)), some (vI (nI t)), j9] [] N Q := by
    refine loopUp 8 ?_ ?_
    · intro N hF hv j9
      refine go ok_Packer_take [] 60 ?_
      refine cLe (by omega) (by omega) (fun _ => ?_) (fun q => absurd q (by omega))
      rw [← hQ]
      exact And.intro (Or.inr rfl) (And.intro hF (Or.inr ⟨rfl, hv⟩))
    · intro t ht ih N hF hv j9
      refine go ok_Packer_take [53, 100, 130] 60 ?_
      refine cLe (by omega) (by omega) (fun q => absurd q (by omega)) (fun _ => ?_)
      refine xq d ok_CS_has (c_has E d N _ t (by omega)) (by omega) ?_
      refine brF (fun q => ?_) (fun q => ?_)
      · refine nm_r (nI_add _ _) (ih N hF (fun u hu hb => ?_) _)
        by_cases e : u = t
        · rw [e, q] at hb; cases hb
        · exact hv u (by omega) hb
      · obtain ⟨p1, p2⟩ := hF.pk hp s hs
        -- behind both
        have f130 : ∀ x, x = tkV cl br s c t (M.1 19 δ t) → Wp E (d + 1) m_Packer_take 130 [some (vP 14 0), some (vI (nI δ)), some (vI set), some (vI (nI s)), some (vI (b1 (c - 1))), some (vP 19 δ), some (vP 19 (δ + 1)), some (vI (outS set s)), some (vI (nI t)), some (vI x)] [] N Q := by
          rintro x hx
          refine go ok_Packer_take [53] 60 ?_
          refine And.intro (fun w => ?_) (fun w => ?_)
          · refine ix t (show _ < 8 by omega) rfl ?_
            refine nm_r (nI_add _ _) (ih (sI N 19 (δ + 1) t x) (hF.tr ⟨fun i r k e => ?_, rfl⟩) (fun u hu hb => ?_) _)
            · exact up3_ne (fun z => e ⟨z.1, by rw [z.2.1]; omega⟩)
            · rw [sI_at]
              by_cases e : u = t
              · rw [if_pos ⟨rfl, rfl, e⟩, hx, e]
              · rw [if_neg (fun z => e z.2.2)]
                exact hv u (by omega) hb
          · rw [← hQ]
            refine And.intro (Or.inl rfl) (And.intro hF (Or.inl ⟨rfl, t, ht, q, ?_⟩))
            rw [← hx]; exact w
        have f100 : ∀ x, x = tkA cl s c t (M.1 19 δ t) → Wp E (d + 1) m_Packer_take 100 [some (vP 14 0), some (vI (nI δ)), some (vI set), some (vI (nI s)), some (vI (b1 (c - 1))), some (vP 19 δ), some (vP 19 (δ + 1)), some (vI (outS set s)), some (vI (nI t)), some (vI x)] [] N Q := by
          rintro x rfl
          refine go ok_Packer_take [130] 60 ?_
          refine ix s (show _ < 8 by omega) rfl ?_
          have hx := c_has E d N (N.1 17 0 s) t (by omega)
          refine xq d ok_CS_has hx (by omega) ?_
          rw [p2]
          refine brF (fun w => ?_) (fun w => ?_)
          · refine f130 _ ?_
            unfold tkV tkB; rw [w]; rfl
          · refine f130 _ ?_
            unfold tkV tkB; rw [w]; rfl
        refine ix t (show _ < 8 by omega) rfl ?_
        refine ix s (show _ < 8 by omega) rfl ?_
        have hx := c_has E d N (N.1 16 0 s) t (by omega)
        refine xq d ok_CS_has hx (by omega) ?_
        rw [p1]
        refine brF (fun w => ?_) (fun w => ?_)
        · refine f100 _ ?_
          unfold tkA; rw [w, ← hF.at t]; rfl
        · refine f100 _ ?_
          unfold tkA; rw [w, ← hF.at t]; rfl
  refine Mt.go ok_Packer_take [53] 60 rfl ?_
  refine cLt (by omega) (by omega) (fun q => absurd q (by omega)) (fun _ => ?_)
  refine cLe (by omega) (by omega) (fun q => absurd q (by omega)) (fun _ => ?_)
  refine cLt (by omega) (by omega) (fun q => absurd q (by omega)) (fun _ => ?_)
  refine cLt (by omega) (by omega) (fun _ => ?_) (fun q => absurd q (by omega))
  refine ix δ (show _ < 9 by omega) rfl ?_
  refine ix (δ + 1) (show _ < 9 by omega) (nI_add _ _) ?_
  refine xq d ok_CS_bit (c_bit E d M s) (by omega) ?_
  exact key 0 (by omega) M (F19.rf δ M) (fun u hu => absurd hu (Nat.not_lt_zero _)) none
end K1
