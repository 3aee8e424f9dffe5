/-! texts: stations, borders, lines; the reference's readStation, readBorder, readLine -/
abbrev SP : Type := Nat × Nat × (Nat → Nat → Int32) × (Nat → Nat) × Nat
def dupN (T : TT) (st : Nat) (nb : Nat → Nat) (b : Nat) : Bool := (List.range st).any (fun k => decide (tW T (nb k) = tW T b))
def notO (T : TT) (C b : Nat) : FL ⊕ (Int32 × Nat) := bif isW T 6 (.inr b) then notL T C 701 (nI 0) (tX T b) else .inr (nI 0, b)
def stT (T : TT) (C : Nat) (R : FL ⊕ Nat) : FL ⊕ (Nat × Nat × Int32 × Nat) := bnd (whl T 1 C (ned T 4 R)) fun z5 => bnd (whl T 0 999 (ned T 5 (.inr z5.2))) fun z6 => bnd (notO T C z6.2) fun z7 => .inr (z5.1, z6.1, z7.1, z7.2)
def pk6 (x y r c w s : Int32) (f : Nat) : Int32 := cond (Nat.beq f 0) x (cond (Nat.beq f 1) y (cond (Nat.beq f 2) r (cond (Nat.beq f 3) c (cond (Nat.beq f 4) w s))))
def stP (P : Nat → Nat → Int32) (st : Nat) (x y r c w s : Int32) : Nat → Nat → Int32 := fun f q => cond (Nat.beq q st && Nat.blt f 6) (pk6 x y r c w s f) (P f q)
def bdP (P : Nat → Nat → Int32) (bd : Nat) (x y r s : Int32) : Nat → Nat → Int32 := fun f q => cond (Nat.beq q (8 + bd) && Nat.blt f 3) (pk6 x y r x x x f) (cond (Nat.beq q bd && Nat.beq f 6) s (P f q))
def nbU (nb : Nat → Nat) (st b : Nat) : Nat → Nat := fun k => cond (Nat.beq k st) b (nb k)
def stn (T : TT) (C : Nat) (S : SP) : FL ⊕ SP :=
  bnd (gon T (bif decide (S.1 = 8) then .inl (4, S.2.2.2.2) else .inr S.2.2.2.2)) fun b1 =>
  bif !decide (tK T b1 = 2) || own T (.inr b1) then .inl (1, b1) else bif dupN T S.1 S.2.2.2.1 b1 then .inl (3, b1) else
  bnd (plcR T (.inr (tX T b1))) fun b4 => bnd (stT T C (.inr b4)) fun z => .inr (S.1 + 1, S.2.1, stP S.2.2.1 S.1 (nI (plX T (tX T b1))) (nI (plY T (tX T b1))) (nI (plZ T (tX T b1))) (nI z.1) (nI z.2.1) z.2.2.1, nbU S.2.2.2.1 S.1 b1, z.2.2.2)
def brd (T : TT) (C : Nat) (S : SP) : FL ⊕ SP :=
  bnd (gon T (bif decide (S.2.1 = 4) then .inl (4, S.2.2.2.2) else .inr S.2.2.2.2)) fun b1 => bnd (plcR T (.inr b1)) fun b4 =>
  bif isW T 6 (.inr b4) then bnd (notL T C 701 (nI 0) (tX T b4)) fun z => .inr (S.1, S.2.1 + 1, bdP S.2.2.1 S.2.1 (nI (plX T b1)) (nI (plY T b1)) (nI (plZ T b1)) z.1, S.2.2.2.1, z.2) else .inl (1, b4)
def lnR (T : TT) (C : Nat) (S : SP) : FL ⊕ SP := bif isW T 1 (.inr S.2.2.2.2) then stn T C S else bif isW T 7 (.inr S.2.2.2.2) then brd T C S else .inl (bif isW T 0 (.inr S.2.2.2.2) then 3 else 1, S.2.2.2.2)
/-- what a reading leaves alone -/
def PZ (i k : Nat) : Prop := (i = 60 ∧ 20 ≤ k ∧ k ≤ 22) ∨ (i = 62 ∧ 36 ≤ k) ∨ (i = 63 ∧ 4 ≤ k) ∨ i = 66
def Fr (B B' : Me) : Prop := (∀ i r k, ¬ PZ i k → B'.1 i r k = B.1 i r k) ∧ (∀ i r k, ¬ (i = 64 ∧ 8 ≤ k) → B'.2.1 i r k = B.2.1 i r k) ∧ B'.2.2 = B.2.2
theorem Fr_rf (B : Me) : Fr B B := ⟨fun _ _ _ _ => rfl, fun _ _ _ _ => rfl, rfl⟩
theorem Fr_sI {B B' : Me} {i r k : Nat} {x : Int32} (h : Fr B B') (hz : PZ i k) : Fr B (sI B' i r k x) := by
  refine ⟨fun a b c hn => ?_, h.2.1, h.2.2⟩
  show up3 B'.1 i r k x a b c = _
  rw [up3_ne (fun q => hn (by rw [q.1, q.2.2]; exact hz))]
  exact h.1 a b c hn
theorem Fr_sJ {B B' : Me} {r k : Nat} {x : Int64} (h : Fr B B') (hk : 8 ≤ k) : Fr B (sJ B' 64 r k x) := by
  refine ⟨h.1, fun a b c hn => ?_, h.2.2⟩
  show up3 B'.2.1 64 r k x a b c = _
  rw [up3_ne (fun q => hn ⟨q.1, by rw [q.2.2]; exact hk⟩)]
  exact h.2.1 a b c hn
theorem Fr_tr {A B C : Me} (h : Fr A B) (h2 : Fr B C) : Fr A C := ⟨fun i r k hn => (h2.1 i r k hn).trans (h.1 i r k hn), fun i r k hn => (h2.2.1 i r k hn).trans (h.2.1 i r k hn), h2.2.2.trans h.2.2⟩
theorem Fr_plB {B B' : Me} {a x y z : Nat} (h : Fr B B') : Fr B (plB B' a x y z) := by
  unfold plB
  refine Fr_sI (Fr_sI (Fr_sI h ?_) ?_) ?_ <;> (unfold PZ; omega)
theorem RTt_Fr {T : TT} {B B' : Me} (h : Fr B B') (hT : RTt T B) : RTt T B' := ⟨hT.1, fun k hk => by rw [h.1 61 0 k (by unfold PZ; omega)]; exact hT.2.1 k hk, hT.2.2⟩
/-- what was read, in the reference -/
def PD (T : TT) (B : Me) (C : Nat) (S : SP) : Prop := B.1 60 0 20 = nI C ∧ (B.1 60 0 21 = nI S.1 ∧ S.1 ≤ 8) ∧ (B.1 60 0 22 = nI S.2.1 ∧ S.2.1 ≤ 4) ∧ (∀ s, s < S.1 → (∀ f, f < 3 → B.1 62 0 (36 + 3 * s + f) = S.2.2.1 f s) ∧ (∀ f, f < 3 → B.1 66 0 (8 * f + s) = S.2.2.1 (3 + f) s) ∧ B.2.1 64 0 (8 + s) = lN (tW T (S.2.2.2.1 s)) ∧ tK T (S.2.2.2.1 s) = 2) ∧ (∀ b, b < S.2.1 → (∀ f, f < 3 → B.1 62 0 (60 + 3 * b + f) = S.2.2.1 f (8 + b)) ∧ B.1 63 0 (4 + b) = S.2.2.1 6 b) ∧ B.1 66 0 24 = nI (2 ^ S.1 - 1) ∧ B.1 66 0 25 = nI 0
theorem sI_at (M : Me) (i r k : Nat) (x : Int32) (a b c : Nat) : (sI M i r k x).1 a b c = if a = i ∧ b = r ∧ c = k then x else M.1 a b c := by
  show up3 M.1 i r k x a b c = _
  by_cases h : a = i ∧ b = r ∧ c = k
  · obtain ⟨rfl, rfl, rfl⟩ := h
    rw [if_pos ⟨rfl, rfl, rfl⟩, up3_same]
  · rw [if_neg h, up3_ne h]
theorem sJ_at (M : Me) (i r k : Nat) (x : Int64) (a b c : Nat) : (sJ M i r k x).2.1 a b c = if a = i ∧ b = r ∧ c = k then x else M.2.1 a b c := by
  show up3 M.2.1 i r k x a b c = _
  by_cases h : a = i ∧ b = r ∧ c = k
  · obtain ⟨rfl, rfl, rfl⟩ := h
    rw [if_pos ⟨rfl, rfl, rfl⟩, up3_same]
  · rw [if_neg h, up3_ne h]
theorem sJ_1 (M : Me) (i r k : Nat) (x : Int64) : (sJ M i r k x).1 = M.1 := rfl
theorem sI_2 (M : Me) (i r k : Nat) (x : Int32) : (sI M i r k x).2 = M.2 := rfl
theorem stP_o {P : Nat → Nat → Int32} {st : Nat} {x y r c w s : Int32} {f q : Nat} (h : q ≠ st ∨ 6 ≤ f) : stP P st x y r c w s f q = P f q := by
  unfold stP
  cases hc : (Nat.beq q st && Nat.blt f 6) with
  | false => rfl
  | true =>
    simp only [Bool.and_eq_true, Nat.beq_eq, Nat.blt_eq] at hc
    omega
theorem stP_s {P : Nat → Nat → Int32} {st : Nat} {x y r c w s : Int32} {f : Nat} (h : f < 6) : stP P st x y r c w s f st = pk6 x y r c w s f := by
  unfold stP
  have h1 : Nat.beq st st = true := Nat.beq_eq.mpr rfl
  have h2 : Nat.blt f 6 = true := Nat.blt_eq.mpr h
  rw [h1, h2]; rfl
theorem bdP_o {P : Nat → Nat → Int32} {bd : Nat} {x y r s : Int32} {f q : Nat} (h : ¬ (q = 8 + bd ∧ f < 3)) (h2 : ¬ (q = bd ∧ f = 6)) : bdP P bd x y r s f q = P f q := by
  unfold bdP
  cases hc : (Nat.beq q (8 + bd) && Nat.blt f 3) with
  | true =>
    simp only [Bool.and_eq_true, Nat.beq_eq, Nat.blt_eq] at hc
    omega
  | false =>
    cases hd : (Nat.beq q bd && Nat.beq f 6) with
    | true =>
      simp only [Bool.and_eq_true, Nat.beq_eq] at hd
      omega
    | false => rfl
theorem bdP_p {P : Nat → Nat → Int32} {bd : Nat} {x y r s : Int32} {f : Nat} (h : f < 3) : bdP P bd x y r s f (8 + bd) = pk6 x y r x x x f := by
  unfold bdP
  have h1 : Nat.beq (8 + bd) (8 + bd) = true := Nat.beq_eq.mpr rfl
  have h2 : Nat.blt f 3 = true := Nat.blt_eq.mpr h
  rw [h1, h2]; rfl
theorem bdP_s {P : Nat → Nat → Int32} {bd : Nat} {x y r s : Int32} : bdP P bd x y r s 6 bd = s := by
  unfold bdP
  have h1 : Nat.beq bd bd = true := Nat.beq_eq.mpr rfl
  have h2 : Nat.blt 6 3 = false := rfl
  have h3 : Nat.beq 6 6 = true := rfl
  rw [h1, h2, h3, Bool.and_false]; rfl
theorem nbU_s {nb : Nat → Nat} {st b : Nat} : nbU nb st b st = b := by
  unfold nbU
  have h1 : Nat.beq st st = true := Nat.beq_eq.mpr rfl
  rw [h1]; rfl
theorem nbU_o {nb : Nat → Nat} {st b k : Nat} (h : k ≠ st) : nbU nb st b k = nb k := by
  unfold nbU
  cases hc : Nat.beq k st with
  | false => rfl
  | true => exact absurd (Nat.beq_eq.mp hc) h
def stW3 (B : Me) (st c w : Nat) (s : Int32) : Me := sI (sI (sI B 66 0 st (nI c)) 66 0 (8 + st) (nI w)) 66 0 (16 + st) s
def stW4 (B : Me) (st c w : Nat) (s : Int32) : Me := sI (stW3 B st c w s) 66 0 24 ((stW3 B st c w s).1 66 0 24 ||| b1 st)
def stW (B : Me) (st c w : Nat) (s : Int32) : Me := sI (stW4 B st c w s) 60 0 21 (B.1 60 0 21 + nI 1)
theorem ones_or : ∀ n, n < 8 → nI (2 ^ n - 1) ||| b1 n = nI (2 ^ (n + 1) - 1) := by decide +kernel
theorem Fr_stW {B B' : Me} {st c w : Nat} {s : Int32} (h : Fr B B') : Fr B (stW B' st c w s) := by
  unfold stW stW4 stW3
  refine Fr_sI (Fr_sI (Fr_sI (Fr_sI (Fr_sI h ?_) ?_) ?_) ?_) ?_ <;> (unfold PZ; omega)
theorem PD_st {T : TT} {B : Me} {C : Nat} {S : SP} (h : PD T B C S) (hst : S.1 < 8) (b1' b' x y z c w : Nat) (s : Int32) (hk : tK T b1' = 2) : PD T (stW (plB (sJ B 64 0 (8 + S.1) (lN (tW T b1'))) S.1 x y z) S.1 c w s) C (S.1 + 1, S.2.1, stP S.2.2.1 S.1 (nI x) (nI y) (nI z) (nI c) (nI w) s, nbU S.2.2.2.1 S.1 b1', b') := by
  obtain ⟨st, bd, P, nb, b0⟩ := S
  dsimp only at hst ⊢
  obtain ⟨h1, ⟨h2, h2'⟩, ⟨h3, h3'⟩, h4, h5, h6, h7⟩ := h
  dsimp only at h1 h2 h2' h3 h3' h4 h5 h6 h7
  refine ⟨?_, ⟨?_, by show st + 1 ≤ 8; omega⟩, ⟨?_, h3'⟩, fun s' hs => ⟨fun f hf => ?_, fun f hf => ?_, ?_, ?_⟩, fun b hb => ⟨fun f hf => ?_, ?_⟩, ?_, ?_⟩
  · simp only [stW, stW4, stW3, plB, sI_at, sJ_1]
    repeat rw [if_neg (by omega)]
    exact h1
  · simp only [stW, stW4, stW3, plB, sI_at, sJ_1]
    rw [if_pos (by refine ⟨?_, ?_, ?_⟩ <;> first | trivial | omega)]
    repeat rw [if_neg (by omega)]
    rw [h2, nI_add]
  · simp only [stW, stW4, stW3, plB, sI_at, sJ_1]
    repeat rw [if_neg (by omega)]
    exact h3
  · dsimp only at hs
    rcases Nat.lt_or_ge s' st with e | e
    · show _ = stP P st _ _ _ _ _ _ f s'
      rw [stP_o (Or.inl (by omega)), ← (h4 s' e).1 f hf]
      simp only [stW, stW4, stW3, plB, sI_at, sJ_1]
      repeat rw [if_neg (by omega)]
    · have e : s' = st := by omega
      subst e
      show _ = stP P s' _ _ _ _ _ _ f s'
      rw [stP_s (by omega)]
      simp only [stW, stW4, stW3, plB, sI_at, sJ_1]
      obtain rfl | rfl | rfl : f = 0 ∨ f = 1 ∨ f = 2 := by omega
      · rw [if_neg (by omega), if_neg (by omega), if_neg (by omega), if_neg (by omega), if_neg (by omega), if_neg (by omega), if_neg (by omega), if_pos (by refine ⟨?_, ?_, ?_⟩ <;> first | trivial | omega)]; rfl
      · rw [if_neg (by omega), if_neg (by omega), if_neg (by omega), if_neg (by omega), if_neg (by omega), if_neg (by omega), if_pos (by refine ⟨?_, ?_, ?_⟩ <;> first | trivial | omega)]; rfl
      · rw [if_neg (by omega), if_neg (by omega), if_neg (by omega), if_neg (by omega), if_neg (by omega), if_pos (by refine ⟨?_, ?_, ?_⟩ <;> first | trivial | omega)]; rfl
  · dsimp only at hs
    rcases Nat.lt_or_ge s' st with e | e
    · show _ = stP P st _ _ _ _ _ _ (3 + f) s'
      rw [stP_o (Or.inl (by omega)), ← (h4 s' e).2.1 f hf]
      simp only [stW, stW4, stW3, plB, sI_at, sJ_1]
      repeat rw [if_neg (by omega)]
    · have e : s' = st := by omega
      subst e
      show _ = stP P s' _ _ _ _ _ _ (3 + f) s'
      rw [stP_s (by omega)]
      simp only [stW, stW4, stW3, plB, sI_at, sJ_1]
      obtain rfl | rfl | rfl : f = 0 ∨ f = 1 ∨ f = 2 := by omega
      · rw [if_neg (by omega), if_neg (by omega), if_neg (by omega), if_neg (by omega), if_pos (by refine ⟨?_, ?_, ?_⟩ <;> first | trivial | omega)]; rfl
      · rw [if_neg (by omega), if_neg (by omega), if_neg (by omega), if_pos (by refine ⟨?_, ?_, ?_⟩ <;> first | trivial | omega)]; rfl
      · rw [if_neg (by omega), if_neg (by omega), if_pos (by refine ⟨?_, ?_, ?_⟩ <;> first | trivial | omega)]; rfl
  · dsimp only at hs
    show (sJ B 64 0 (8 + st) (lN (tW T b1'))).2.1 64 0 (8 + s') = _
    rw [sJ_at]
    rcases Nat.lt_or_ge s' st with e | e
    · rw [if_neg (by omega)]
      show _ = lN (tW T (nbU nb st b1' s'))
      rw [nbU_o (by omega)]
      exact (h4 s' e).2.2.1
    · have e : s' = st := by omega
      subst e
      rw [if_pos ⟨rfl, rfl, rfl⟩]
      show _ = lN (tW T (nbU nb s' b1' s'))
      rw [nbU_s]
  · dsimp only at hs
    show tK T (nbU nb st b1' s') = 2
    rcases Nat.lt_or_ge s' st with e | e
    · rw [nbU_o (by omega)]
      exact (h4 s' e).2.2.2
    · have e : s' = st := by omega
      subst e
      rw [nbU_s]
      exact hk
  · show _ = stP P st _ _ _ _ _ _ f (8 + b)
    rw [stP_o (Or.inl (by omega)), ← (h5 b hb).1 f hf]
    simp only [stW, stW4, stW3, plB, sI_at, sJ_1]
    repeat rw [if_neg (by omega)]
  · show _ = stP P st _ _ _ _ _ _ 6 b
    rw [stP_o (Or.inr (by omega)), ← (h5 b hb).2]
    simp only [stW, stW4, stW3, plB, sI_at, sJ_1]
    repeat rw [if_neg (by omega)]
  · simp only [stW, stW4, stW3, plB, sI_at, sJ_1]
    rw [if_neg (by omega), if_pos (by refine ⟨?_, ?_, ?_⟩ <;> first | trivial | omega)]
    repeat rw [if_neg (by omega)]
    rw [h6]
    exact ones_or st hst
  · simp only [stW, stW4, stW3, plB, sI_at, sJ_1]
    repeat rw [if_neg (by omega)]
    exact h7
def bdW (B : Me) (bd : Nat) (s : Int32) : Me := sI (sI B 63 0 (4 + bd) s) 60 0 22 (B.1 60 0 22 + nI 1)
theorem Fr_bdW {B B' : Me} {bd : Nat} {s : Int32} (h : Fr B B') : Fr B (bdW B' bd s) := by
  unfold bdW
  refine Fr_sI (Fr_sI h ?_) ?_ <;> (unfold PZ; omega)
theorem PD_bd {T : TT} {B : Me} {C : Nat} {S : SP} (h : PD T B C S) (hbd : S.2.1 < 4) (b' x y z : Nat) (s : Int32) : PD T (bdW (plB B (8 + S.2.1) x y z) S.2.1 s) C (S.1, S.2.1 + 1, bdP S.2.2.1 S.2.1 (nI x) (nI y) (nI z) s, S.2.2.2.1, b') := by
  obtain ⟨st, bd, P, nb, b0⟩ := S
  dsimp only at hbd ⊢
  obtain ⟨h1, ⟨h2, h2'⟩, ⟨h3, h3'⟩, h4, h5, h6, h7⟩ := h
  dsimp only at h1 h2 h2' h3 h3' h4 h5 h6 h7
  refine ⟨?_, ⟨?_, h2'⟩, ⟨?_, by show bd + 1 ≤ 4; omega⟩, fun s' hs => ⟨fun f hf => ?_, fun f hf => ?_, ?_, ?_⟩, fun b hb => ⟨fun f hf => ?_, ?_⟩, ?_, ?_⟩
  · simp only [bdW, plB, sI_at]
    repeat rw [if_neg (by omega)]
    exact h1
  · simp only [bdW, plB, sI_at]
    repeat rw [if_neg (by omega)]
    exact h2
  · simp only [bdW, plB, sI_at]
    rw [if_pos (by refine ⟨?_, ?_, ?_⟩ <;> first | trivial | omega)]
    repeat rw [if_neg (by omega)]
    rw [h3, nI_add]
  · dsimp only at hs
    show _ = bdP P bd _ _ _ _ f s'
    rw [bdP_o (by omega) (by omega), ← (h4 s' hs).1 f hf]
    simp only [bdW, plB, sI_at]
    repeat rw [if_neg (by omega)]
  · dsimp only at hs
    show _ = bdP P bd _ _ _ _ (3 + f) s'
    rw [bdP_o (by omega) (by omega), ← (h4 s' hs).2.1 f hf]
    simp only [bdW, plB, sI_at]
    repeat rw [if_neg (by omega)]
  · exact (h4 s' hs).2.2.1
  · exact (h4 s' hs).2.2.2
  · dsimp only at hb
    show _ = bdP P bd _ _ _ _ f (8 + b)
    rcases Nat.lt_or_ge b bd with e | e
    · rw [bdP_o (by omega) (by omega), ← (h5 b e).1 f hf]
      simp only [bdW, plB, sI_at]
      repeat rw [if_neg (by omega)]
    · have e : b = bd := by omega
      subst e
      rw [bdP_p hf]
      simp only [bdW, plB, sI_at]
      obtain rfl | rfl | rfl : f = 0 ∨ f = 1 ∨ f = 2 := by omega
      · rw [if_neg (by omega), if_neg (by omega), if_neg (by omega), if_neg (by omega), if_pos (by refine ⟨?_, ?_, ?_⟩ <;> first | trivial | omega)]; rfl
      · rw [if_neg (by omega), if_neg (by omega), if_neg (by omega), if_pos (by refine ⟨?_, ?_, ?_⟩ <;> first | trivial | omega)]; rfl
      · rw [if_neg (by omega), if_neg (by omega), if_pos (by refine ⟨?_, ?_, ?_⟩ <;> first | trivial | omega)]; rfl
  · dsimp only at hb
    show _ = bdP P bd _ _ _ _ 6 b
    rcases Nat.lt_or_ge b bd with e | e
    · rw [bdP_o (by omega) (by omega), ← (h5 b e).2]
      simp only [bdW, plB, sI_at]
      repeat rw [if_neg (by omega)]
    · have e : b = bd := by omega
      subst e
      rw [bdP_s]
      simp only [bdW, plB, sI_at]
      rw [if_neg (by omega), if_pos (by refine ⟨?_, ?_, ?_⟩ <;> first | trivial | omega)]
  · simp only [bdW, plB, sI_at]
    repeat rw [if_neg (by omega)]
    exact h6
  · simp only [bdW, plB, sI_at]
    repeat rw [if_neg (by omega)]
    exact h7
def LnP (T : TT) (B : Me) (C : Nat) (M' : Me) : FL ⊕ SP → Prop
  | .inl q => ∃ B', Fr B B' ∧ TMe T B' (.inl q) M'
  | .inr S => ∃ B', Fr B B' ∧ TMe T B' (.inr S.2.2.2.2) M' ∧ PD T B' C S
