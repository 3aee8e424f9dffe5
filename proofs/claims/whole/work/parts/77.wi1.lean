/-! class and reference side by side: what holds between calls -/
abbrev dr (M : Me) : Nat := M.2.2 0 0 10
def ImV (n : Nat) (g : Nat → Int32) : Prop := (∀ s, s < n → ∃ v, g s = nI v ∧ 1 ≤ v ∧ v ≤ 10) ∧ (∀ s, s < n → ∃ v, g (8 + s) = nI v ∧ v ≤ 999) ∧ ∃ a, g 24 = nI a ∧ a < 2 ^ n
/-- an image of the reference and one of the class -/
def ImR (n : Nat) (g c : Nat → Int32) : Prop := ImV n g ∧ (∀ s, s < n → c (3 * s) = g s ∧ c (3 * s + 1) = g (8 + s) ∧ c (3 * s + 2) = g (16 + s)) ∧ c 24 = g 24 ∧ c 25 = g 25
def NmI (M : Me) (s : Nat) : Prop := (∃ z, M.1 62 0 (3 * s + 2) = nI z ∧ z ≤ 60) ∧ ∃ (w : Nat → Nat) (l : Nat), l ≤ 8 ∧ (∀ i, i < l → M.1 44 (s + pl M * 8) i = nI (w i) ∧ 97 ≤ w i ∧ w i ≤ 122) ∧ M.1 45 (pl M) s = nI l ∧ M.2.1 64 0 s = lN (wdV w l)
def W1 (M : Me) : Prop := (pl M ≠ dr M ∧ M.1 31 (dr M) 4 = nI 8 ∧ M.1 36 (dr M) 4 = nI 4) ∧ ((M.1 60 0 17 = nI (cN M) ∧ cN M ≤ 10) ∧ (M.1 60 0 18 = nI (sN M) ∧ sN M ≤ 8) ∧ (M.1 60 0 19 = nI (bN M) ∧ bN M ≤ 4)) ∧ (M.1 60 0 23 = bI (hT M) ∧ hT M = decide (0 < sN M) ∧ (hT M = true → 1 ≤ cN M)) ∧ CWp M (pl M) ∧ ∀ s, s < sN M → NmI M s
def W2 (M : Me) : Prop := ∃ c, c ≤ 700 ∧ M.1 1 0 1 = nI c ∧ M.1 60 0 4 = nI c ∧ (∀ k, k < c → M.1 2 0 k &&& nI 255 = M.1 61 0 k) ∧ RTb M
def W3 (M : Me) : Prop := ImR (sN M) (M.1 65 0) (snp M)
def W4 (M : Me) : Prop := (M.1 60 0 29 = nI (acN M) ∧ acN M ≤ 10) ∧ (M.1 8 0 1 = nI (hx M) ∧ hx M < 10) ∧ M.1 8 0 2 = M.1 60 0 29 ∧ ∀ j, j < acN M → ImR (sN M) (fun k => M.1 67 0 (26 * j + k)) (M.1 10 ((hx M + (10 - acN M) + j) % 10))
def W5 (M : Me) : Prop := ∀ i, i < 2 → (M.1 13 0 i = bI (kp M i) ∧ M.1 69 0 i = bI (kp M i)) ∧ (kp M i = true → ImR (sN M) (fun k => M.1 68 0 (26 * i + k)) (M.1 12 i))
def W6 (M : Me) : Prop := M.1 0 0 11 = M.1 60 0 1 ∧ M.1 0 0 12 = M.1 60 0 7 ∧ M.1 60 0 2 = (if M.1 0 0 11 = nI 4 then M.1 0 0 13 else -(nI 1))
def WI (M : Me) (n : Nat) : Prop := (W1 M ∧ W2 M) ∧ (W3 M ∧ W4 M ∧ W5 M) ∧ W6 M ∧ KNm M n ∧ RRe M
/-! each part looks at its own places -/
def mxP (P : Nat → Nat → Bool) (B : Me) (f : Nat → Nat → Nat → Int32) : Me := (fun i r k => cond (P i k) (B.1 i r k) (f i r k), B.2)
theorem mxP_eq {P : Nat → Nat → Bool} {B M : Me} (h : ∀ i r k, P i k = true → M.1 i r k = B.1 i r k) (h2 : M.2 = B.2) : M = mxP P B M.1 := by
  unfold mxP
  refine Prod.ext ?_ h2
  funext i r k
  dsimp only
  cases e : P i k with
  | false => rfl
  | true => exact h i r k e
def P1 (i k : Nat) : Bool := (Nat.ble 30 i && Nat.ble i 49) || ((Nat.beq i 62 || Nat.beq i 63) || (Nat.beq i 60 && ((Nat.beq k 17 || Nat.beq k 18) || (Nat.beq k 19 || Nat.beq k 23))))
def P2 (i k : Nat) : Bool := (Nat.beq i 2 || Nat.beq i 61) || ((Nat.beq i 1 && Nat.beq k 1) || (Nat.beq i 60 && Nat.beq k 4))
def P3 (i k : Nat) : Bool := (Nat.beq i 65 || (Nat.ble 5 i && Nat.ble i 7)) || ((Nat.beq i 4 && (Nat.beq k 3 || Nat.beq k 4)) || (Nat.beq i 60 && Nat.beq k 18))
def P4 (i k : Nat) : Bool := (Nat.beq i 10 || Nat.beq i 67) || ((Nat.beq i 8 && (Nat.beq k 1 || Nat.beq k 2)) || (Nat.beq i 60 && (Nat.beq k 18 || Nat.beq k 29)))
def P5 (i k : Nat) : Bool := ((Nat.beq i 12 || Nat.beq i 13) || (Nat.beq i 68 || Nat.beq i 69)) || (Nat.beq i 60 && Nat.beq k 18)
def P7 (i k : Nat) : Bool := (Nat.ble 15 i && Nat.ble i 17) || ((Nat.beq i 20 || Nat.beq i 27) || (Nat.beq i 14 && (Nat.beq k 6 || Nat.beq k 7)))
theorem W1_fr {B M : Me} (h : ∀ i r k, P1 i k = true → M.1 i r k = B.1 i r k) (h2 : M.2 = B.2) (hW : W1 B) : W1 M := by
  rw [mxP_eq h h2]; exact hW
theorem W2_fr {B M : Me} (h : ∀ i r k, P2 i k = true → M.1 i r k = B.1 i r k) (h2 : M.2 = B.2) (hW : W2 B) : W2 M := by
  rw [mxP_eq h h2]; exact hW
theorem W3_fr {B M : Me} (h : ∀ i r k, P3 i k = true → M.1 i r k = B.1 i r k) (h2 : M.2 = B.2) (hW : W3 B) : W3 M := by
  rw [mxP_eq h h2]; exact hW
theorem W4_fr {B M : Me} (h : ∀ i r k, P4 i k = true → M.1 i r k = B.1 i r k) (h2 : M.2 = B.2) (hW : W4 B) : W4 M := by
  rw [mxP_eq h h2]; exact hW
theorem W5_fr {B M : Me} (h : ∀ i r k, P5 i k = true → M.1 i r k = B.1 i r k) (h2 : M.2 = B.2) (hW : W5 B) : W5 M := by
  rw [mxP_eq h h2]; exact hW
theorem KNm_fr {B M : Me} {n : Nat} (h : ∀ i r k, P7 i k = true → M.1 i r k = B.1 i r k) (h2 : M.2 = B.2) (hW : KNm B n) : KNm M n := by
  rw [mxP_eq h h2]; exact hW
theorem P1_i {i k : Nat} : P1 i k = true ↔ (30 ≤ i ∧ i ≤ 49) ∨ (i = 62 ∨ i = 63) ∨ (i = 60 ∧ (k = 17 ∨ k = 18 ∨ k = 19 ∨ k = 23)) := by
  unfold P1
  simp only [Bool.or_eq_true, Bool.and_eq_true, Nat.ble_eq, Nat.beq_eq, or_assoc]
theorem P2_i {i k : Nat} : P2 i k = true ↔ (i = 2 ∨ i = 61) ∨ (i = 1 ∧ k = 1) ∨ (i = 60 ∧ k = 4) := by
  unfold P2
  simp only [Bool.or_eq_true, Bool.and_eq_true, Nat.ble_eq, Nat.beq_eq]
theorem P3_i {i k : Nat} : P3 i k = true ↔ (i = 65 ∨ (5 ≤ i ∧ i ≤ 7)) ∨ (i = 4 ∧ (k = 3 ∨ k = 4)) ∨ (i = 60 ∧ k = 18) := by
  unfold P3
  simp only [Bool.or_eq_true, Bool.and_eq_true, Nat.ble_eq, Nat.beq_eq]
theorem P4_i {i k : Nat} : P4 i k = true ↔ (i = 10 ∨ i = 67) ∨ (i = 8 ∧ (k = 1 ∨ k = 2)) ∨ (i = 60 ∧ (k = 18 ∨ k = 29)) := by
  unfold P4
  simp only [Bool.or_eq_true, Bool.and_eq_true, Nat.ble_eq, Nat.beq_eq]
theorem P5_i {i k : Nat} : P5 i k = true ↔ ((i = 12 ∨ i = 13) ∨ (i = 68 ∨ i = 69)) ∨ (i = 60 ∧ k = 18) := by
  unfold P5
  simp only [Bool.or_eq_true, Bool.and_eq_true, Nat.ble_eq, Nat.beq_eq]
theorem P7_i {i k : Nat} : P7 i k = true ↔ (15 ≤ i ∧ i ≤ 17) ∨ (i = 20 ∨ i = 27) ∨ (i = 14 ∧ (k = 6 ∨ k = 7)) := by
  unfold P7
  simp only [Bool.or_eq_true, Bool.and_eq_true, Nat.ble_eq, Nat.beq_eq]
theorem scC_i {i k : Nat} : scC i k = false ↔ ¬ ((14 ≤ i ∧ i ≤ 27) ∨ (i = 0 ∧ k = 11)) := by
  rw [← Bool.not_eq_true]
  unfold scC
  simp only [Bool.or_eq_true, Bool.and_eq_true, Nat.ble_eq, Nat.beq_eq]
theorem scrR_i {i k : Nat} : scrR i k = false ↔ ¬ ((70 ≤ i ∧ i ≤ 77) ∨ (i = 60 ∧ (k ≤ 2 ∨ (32 ≤ k ∧ ¬ (k = 34 ∨ k = 39 ∨ k = 40))))) := by
  rw [← Bool.not_eq_true]
  unfold scrR
  simp only [Bool.or_eq_true, Bool.and_eq_true, Nat.ble_eq, Nat.beq_eq, Bool.not_eq_true', ← Bool.not_eq_true]
/-! what the single contracts ask for -/
theorem WI_CI {M : Me} {n : Nat} (h : WI M n) : CI M := by
  obtain ⟨⟨⟨a1, ⟨a2, a3, a4⟩, ⟨a5, a6, a7⟩, a8, a9⟩, -⟩, ⟨⟨⟨b1', b2, b3⟩, b4, b5, b6⟩, ⟨c1, c2, c3, c4⟩, -⟩, -⟩ := h
  refine ⟨⟨⟨a2, a3, a4, fun s hs => ?_⟩, a5⟩, ?_, a6, a8, ⟨?_, ?_, fun s hs => ?_⟩, c3, a7, fun s hs => (a9 s hs).1⟩
  · obtain ⟨v, e, v1, v2⟩ := b1' s hs
    have : oN M s = v := by
      unfold oN
      rw [e]; exact nI_clamp (by omega)
    rw [this]
    exact ⟨e, v1, v2⟩
  · obtain ⟨a, e, ha⟩ := b3
    have h31 : a < 2 ^ 31 := Nat.lt_of_lt_of_le ha (Nat.pow_le_pow_right (by omega) (by have := a3.2; omega))
    have : aiN M = a := by
      unfold aiN
      rw [e]; exact nI_clamp h31
    unfold RB
    rw [this]
    exact ⟨e, ha⟩
  · exact b5
  · exact b6
  · obtain ⟨e1, e2, e3⟩ := b4 s hs
    have h8 := a3.2
    have s1 : snp M (3 * s) = M.1 5 0 s := by
      unfold snp
      rw [if_pos (by omega), if_pos (by omega), show 3 * s / 3 = s by omega]
    have s2 : snp M (3 * s + 1) = M.1 6 0 s := by
      unfold snp
      rw [if_pos (by omega), if_neg (by omega), if_pos (by omega), show (3 * s + 1) / 3 = s by omega]
    have s3 : snp M (3 * s + 2) = M.1 7 0 s := by
      unfold snp
      rw [if_pos (by omega), if_neg (by omega), if_neg (by omega), show (3 * s + 2) / 3 = s by omega]
    rw [s1] at e1
    rw [s2] at e2
    rw [s3] at e3
    exact ⟨e1, e2, e3⟩
theorem WI_RVl {M : Me} {n : Nat} (h : WI M n) : RVl M := h.2.1.1.1.2.1
theorem WI_hz {M : Me} {n : Nat} (h : WI M n) : hz M = acN M := by
  unfold hz acN tN
  rw [h.2.1.2.1.2.2.1]
theorem WI_RA {M : Me} {n : Nat} (h : WI M n) : RA M := h.2.1.2.1.1
theorem WI_RH {M : Me} {n : Nat} (h : WI M n) : RH M := by
  refine ⟨h.2.1.2.1.2.1, ?_⟩
  rw [WI_hz h]
  exact ⟨h.2.1.2.1.2.2.1.trans h.2.1.2.1.1.1, h.2.1.2.1.1.2⟩
theorem WI_RK {M : Me} {n : Nat} (h : WI M n) : RK M := fun i hi => (h.2.1.2.2 i hi).1.2
theorem WI_RTp {M : Me} {n : Nat} (h : WI M n) : RTp M := by
  obtain ⟨c, c1, c2, c3, c4, c5⟩ := h.1.2
  have e : tpN M = c := by
    unfold tpN
    rw [c3]; exact tN_nI (by omega)
  unfold RTp
  rw [e]
  exact ⟨c3, c1⟩
theorem WI_RTb {M : Me} {n : Nat} (h : WI M n) : RTb M := h.1.2.choose_spec.2.2.2.2
/-! a question asked of both -/
theorem WI_q {M M1 M2 : Me} {n : Nat} {t : Int32} (h : WI M n) (f1 : FC M M1) (e1 : M1.1 0 0 11 = t) (k1 : KNm M1 (n + 1)) (f2 : AgR M1 M2) (r2 : RRe M2) (e2 : M2.1 60 0 1 = t) (e3 : M2.1 60 0 2 = -(nI 1)) (ht : t ≠ nI 4) : WI M2 (n + 1) := by
  have g2 : M2.2 = M.2 := f2.2.trans f1.2
  have g : ∀ i r k, ¬ ((14 ≤ i ∧ i ≤ 27) ∨ (i = 0 ∧ k = 11)) → ¬ ((70 ≤ i ∧ i ≤ 77) ∨ (i = 60 ∧ (k ≤ 2 ∨ (32 ≤ k ∧ ¬ (k = 34 ∨ k = 39 ∨ k = 40))))) → M2.1 i r k = M.1 i r k := fun i r k h1 h2 => by
    rw [f2.1 i r k (scrR_i.mpr h2), f1.1 i r k (scC_i.mpr h1)]
  obtain ⟨⟨w1, w2⟩, ⟨w3, w4, w5⟩, w6, -, -⟩ := h
  refine ⟨⟨W1_fr (fun i r k e => ?_) g2 w1, W2_fr (fun i r k e => ?_) g2 w2⟩, ⟨W3_fr (fun i r k e => ?_) g2 w3, W4_fr (fun i r k e => ?_) g2 w4, W5_fr (fun i r k e => ?_) g2 w5⟩, ⟨?_, ?_, ?_⟩, KNm_fr (fun i r k e => ?_) f2.2 k1, r2⟩
  · rw [P1_i] at e; exact g i r k (by omega) (by omega)
  · rw [P2_i] at e; exact g i r k (by omega) (by omega)
  · rw [P3_i] at e; exact g i r k (by omega) (by omega)
  · rw [P4_i] at e; exact g i r k (by omega) (by omega)
  · rw [P5_i] at e; exact g i r k (by omega) (by omega)
  · rw [f2.1 0 0 11 rfl, e1, e2]
  · rw [g 0 0 12 (by omega) (by omega), g 60 0 7 (by omega) (by omega)]; exact w6.2.1
  · rw [e3, f2.1 0 0 11 rfl, e1, if_neg ht]
  · rw [P7_i] at e; exact f2.1 i r k (scrR_i.mpr (by omega))
theorem WI_q0 {M : Me} {n : Nat} (h : WI M n) (hn : n + 1 < 2000) {t : Int32} (ht : t ≠ nI 4) : WI (rTr (sI M 0 0 11 t) t) (n + 1) := by
  refine WI_q (M1 := sI M 0 0 11 t) h (FC_sI (FC.rf M) rfl) rfl (KNm_up (KNm_fr (fun i r k e => ?_) rfl h.2.2.2.1) hn) (((ag_sI rfl).tr (ag_sI rfl)).tr (ag_sI rfl)) (RRe_o h.2.2.2.2 rfl) rfl rfl ht
  rw [P7_i] at e
