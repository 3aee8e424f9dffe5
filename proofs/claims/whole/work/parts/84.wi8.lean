/-! a text: what both have read -/
theorem mT_o {B : Me} {f : Nat → Int32} {g : Int64} {i r k : Nat} (h : ¬ (i = 60 ∧ 5 ≤ k ∧ k ≤ 12)) : (mT B f g).1 i r k = B.1 i r k := by
  unfold mT
  dsimp only
  cases hc : (Nat.beq i 60 && (Nat.beq r 0 && (Nat.ble 5 k && Nat.ble k 12))) with
  | false => rfl
  | true =>
    simp only [Bool.and_eq_true, Nat.beq_eq, Nat.ble_eq] at hc
    exact absurd ⟨hc.1, hc.2.2.1, hc.2.2.2⟩ h
theorem setL_1 (M : Me) (i r n : Nat) (f : Nat → Int64) : (setL M i r n f).1 = M.1 := rfl
theorem bc_o (N : Me) {i r k : Nat} (h60 : ¬ (i = 60 ∧ (k ≤ 2 ∨ (17 ≤ k ∧ k ≤ 19) ∨ k = 23 ∨ k = 29))) (h62 : ¬ (i = 62 ∧ k < 36)) (h63 : ¬ (i = 63 ∧ k < 4)) (h65 : ¬ (i = 65 ∧ k < 26)) (h69 : i ≠ 69) : (fin0 (bc6 N)).1 i r k = N.1 i r k := by
  unfold fin0 bc6 bc5 bc4 bc3 bc2 bc1
  rw [sI_at, if_neg (by omega), sI_at, if_neg (by omega), sI_at, if_neg (by omega), sI_at, if_neg (by omega), sI_at, if_neg (by omega), sI_at, if_neg (by omega), setR_if, if_neg (by omega), setL_1, setR_if, if_neg (by omega), setR_if, if_neg (by omega), sI_at, if_neg (by omega), sI_at, if_neg (by omega), sI_at, if_neg (by omega)]
theorem bc_62 (N : Me) {k : Nat} (h : k < 36) : (fin0 (bc6 N)).1 62 0 k = N.1 62 0 (36 + k) := by
  unfold fin0 bc6 bc5 bc4 bc3 bc2
  rw [sI_at, if_neg (by omega), sI_at, if_neg (by omega), sI_at, if_neg (by omega), sI_at, if_neg (by omega), sI_at, if_neg (by omega), sI_at, if_neg (by omega), setR_if, if_neg (by omega), setL_1, setR_if, if_neg (by omega), setR_if, if_pos (by omega), Nat.sub_zero]
theorem bc_63 (N : Me) {k : Nat} (h : k < 4) : (fin0 (bc6 N)).1 63 0 k = N.1 63 0 (4 + k) := by
  unfold fin0 bc6 bc5 bc4 bc3
  rw [sI_at, if_neg (by omega), sI_at, if_neg (by omega), sI_at, if_neg (by omega), sI_at, if_neg (by omega), sI_at, if_neg (by omega), sI_at, if_neg (by omega), setR_if, if_neg (by omega), setL_1, setR_if, if_pos (by omega), Nat.sub_zero]
theorem bc_65 (N : Me) {k : Nat} (h : k < 26) : (fin0 (bc6 N)).1 65 0 k = N.1 66 0 k := by
  unfold fin0 bc6 bc5
  rw [sI_at, if_neg (by omega), sI_at, if_neg (by omega), sI_at, if_neg (by omega), sI_at, if_neg (by omega), sI_at, if_neg (by omega), sI_at, if_neg (by omega), setR_if, if_pos (by omega), Nat.sub_zero]
theorem bc_64 (N : Me) {k : Nat} (h : k < 8) : (fin0 (bc6 N)).2.1 64 0 k = N.2.1 64 0 (8 + k) := by
  show (setL (bc3 N) 64 0 8 (fun k => N.2.1 64 0 (8 + k))).2.1 64 0 k = _
  rw [setL_at h]
theorem txM_o (M : Me) (n : Nat) {i r k : Nat} (h : ¬ (i = 60 ∧ (k = 0 ∨ k = 4 ∨ k = 5 ∨ k = 6 ∨ k = 7 ∨ k = 21 ∨ k = 22))) (h66 : i ≠ 66) : (txM M n).1 i r k = M.1 i r k := by
  unfold txM
  rw [setR_if, if_neg (by omega), sI_at, if_neg (by omega), sI_at, if_neg (by omega), sI_at, if_neg (by omega), sI_at, if_neg (by omega), sI_at, if_neg (by omega), sI_at, if_neg (by omega), sI_at, if_neg (by omega)]
/-- what was read of a station is within its bounds -/
def VS (C : Nat) (S : SP) : Prop := ∀ s, s < S.1 → ∃ c w, S.2.2.1 3 s = nI c ∧ 1 ≤ c ∧ c ≤ C ∧ S.2.2.1 4 s = nI w ∧ w ≤ 999 ∧ (s < 8 → ∃ z, S.2.2.1 2 s = nI z ∧ z ≤ 60)
theorem VS_ln {T : TT} {C : Nat} {S S' : SP} (h : lnR T C S = .inr S') (hV : VS C S) : VS C S' := by
  obtain ⟨st, bd, P, nb, b⟩ := S
  unfold lnR at h
  dsimp only at h
  cases h1 : isW T 1 (.inr b) with
  | true =>
    rw [h1, cond_true] at h
    unfold stn at h
    dsimp only at h
    cases h8 : decide (st = 8) with
    | true => rw [h8] at h; cases h
    | false =>
      rw [h8] at h
      have h : (bif !decide (tK T (tX T b) = 2) || own T (.inr (tX T b)) then .inl (1, tX T b) else bif dupN T st nb (tX T b) then .inl (3, tX T b) else bnd (plcR T (.inr (tX T (tX T b)))) _) = Sum.inr S' := h
      cases h2 : (!decide (tK T (tX T b) = 2) || own T (.inr (tX T b))) with
      | true => rw [h2] at h; cases h
      | false =>
        rw [h2, cond_false] at h
        cases h3 : dupN T st nb (tX T b) with
        | true => rw [h3] at h; cases h
        | false =>
          rw [h3, cond_false] at h
          cases h4 : plcR T (.inr (tX T (tX T b))) with
          | inl q => rw [h4] at h; cases h
          | inr b4 =>
            rw [h4, bnd_inr] at h
            cases h5 : stT T C (.inr b4) with
            | inl q => rw [h5] at h; cases h
            | inr z =>
              rw [h5, bnd_inr] at h
              obtain ⟨-, z1, z2, z3⟩ := stT_ge h5
              obtain ⟨bq, ebq, -, -, -, -, -, -, hz60⟩ := plc_inr h4
              cases ebq
              cases h
              intro s hs
              dsimp only at hs ⊢
              rcases Nat.lt_or_ge s st with e | e
              · rw [stP_o (Or.inl (by omega)), stP_o (Or.inl (by omega)), stP_o (Or.inl (by omega))]
                exact hV s e
              · have e : s = st := by omega
                subst e
                rw [stP_s (by omega), stP_s (by omega), stP_s (by omega)]
                exact ⟨z.1, z.2.1, rfl, z1, z2, rfl, z3, fun _ => ⟨plZ T (tX T (tX T b)), rfl, hz60⟩⟩
  | false =>
    rw [h1, cond_false] at h
    cases h2 : isW T 7 (.inr b) with
    | false => rw [h2] at h; cases h
    | true =>
      rw [h2, cond_true] at h
      unfold brd at h
      dsimp only at h
      cases h8 : decide (bd = 4) with
      | true => rw [h8] at h; cases h
      | false =>
        rw [h8] at h
        have h : bnd (plcR T (.inr (tX T b))) _ = Sum.inr S' := h
        cases h4 : plcR T (.inr (tX T b)) with
        | inl q => rw [h4] at h; cases h
        | inr b4 =>
          rw [h4, bnd_inr] at h
          cases h5 : isW T 6 (.inr b4) with
          | false => rw [h5] at h; cases h
          | true =>
            rw [h5, cond_true] at h
            cases h6 : notL T C 701 (nI 0) (tX T b4) with
            | inl q => rw [h6] at h; cases h
            | inr z =>
              rw [h6, bnd_inr] at h
              cases h
              intro s hs
              dsimp only at hs ⊢
              rw [bdP_o (by omega) (by omega), bdP_o (by omega) (by omega)]
              obtain ⟨v1, v2, v3, v4, v5, v6, v7, v8⟩ := hV s hs
              exact ⟨v1, v2, v3, v4, v5, v6, v7, fun h8 => by rw [bdP_o (by omega) (by omega)]; exact v8 h8⟩
theorem VS_lns {T : TT} {C : Nat} : ∀ (f : Nat) (S S' : SP), lns T C f S = .inr S' → VS C S → VS C S'
  | 0, S, S', h, hV => by rw [lns] at h; cases h; exact hV
  | f + 1, S, S', h, hV => by
    rw [lns] at h
    cases hg : isG T 59 (.inr S.2.2.2.2) with
    | false => rw [hg] at h; cases h; exact hV
    | true =>
      rw [hg, cond_true] at h
      cases hL : lnR T C (S.1, S.2.1, S.2.2.1, S.2.2.2.1, tX T S.2.2.2.2) with
      | inl q => rw [hL] at h; cases h
      | inr S2 =>
        rw [hL, bnd_inr] at h
        exact VS_lns f S2 S' h (VS_ln hL hV)
theorem prs_ok {T : TT} {C : Nat} {S : SP} (h : prs T = .inr (C, S)) : 1 ≤ C ∧ C ≤ 10 ∧ S.1 ≠ 0 ∧ VS C S := by
  unfold prs at h
  cases hW : whl T 1 10 (ned T 0 (.inr (tB T 0))) with
  | inl q => rw [hW] at h; cases h
  | inr z =>
    obtain ⟨b0, -, ez, -, u1, u2⟩ := whl_inr hW
    rw [hW, bnd_inr] at h
    cases hL : lns T z.1 701 (0, 0, fun _ _ => nI 0, fun _ => 0, z.2) with
    | inl q => rw [hL] at h; cases h
    | inr S' =>
      rw [hL, bnd_inr] at h
      have hV := VS_lns _ _ _ hL (fun s hs => absurd hs (Nat.not_lt_zero s))
      unfold lfin at h
      cases h1 : (!decide (tK T S'.2.2.2.2 = 1)) with
      | true => rw [h1] at h; cases h
      | false =>
        rw [h1, cond_false] at h
        cases h2 : decide (S'.1 = 0) with
        | true => rw [h2] at h; cases h
        | false =>
          rw [h2] at h
          cases h
          refine ⟨by rw [ez]; exact u1, by rw [ez]; exact u2, of_decide_eq_false h2, hV⟩
/-! the same plan told by the same numbers -/
theorem clS_cg {M B : Me} (es : sN M = sN B) (h8 : sN B ≤ 8) (h62 : ∀ k, k < 36 → M.1 62 0 k = B.1 62 0 k) : (∀ s, clS M s = clS B s) ∧ (∀ s, brS M s = brS B s) ∧ ∀ b s, b < 4 → s < 8 → aCnt M b s = aCnt B b s := by
  have ef : ∀ a b, a < 12 → b < 12 → aFar M a b = aFar B a b := fun a b ha hb => by
    unfold aFar
    rw [h62 (3 * a) (by omega), h62 (3 * b) (by omega), h62 (3 * a + 1) (by omega), h62 (3 * b + 1) (by omega)]
  have er : ∀ a, a < 12 → aRch M a = aRch B a := fun a ha => by
    unfold aRch
    rw [h62 (3 * a + 2) (by omega)]
  refine ⟨fun s => ?_, fun s => ?_, fun b s hb hs => ?_⟩
  · funext t
    unfold clS
    rw [es]
    by_cases c1 : s < sN B
    · by_cases c2 : t < sN B
      · unfold aClash
        rw [ef s t (by omega) (by omega), er s (by omega), er t (by omega)]
      · rw [decide_eq_false c2, Bool.false_and, Bool.false_and]
    · rw [decide_eq_false c1, Bool.false_and, Bool.false_and]
  · funext t
    unfold brS
    rw [es]
    by_cases c1 : s < sN B
    · by_cases c2 : t < sN B
      · unfold aBrush aMx
        rw [ef s t (by omega) (by omega), er s (by omega), er t (by omega)]
      · rw [decide_eq_false c2, Bool.false_and, Bool.false_and]
    · rw [decide_eq_false c1, Bool.false_and, Bool.false_and]
  · unfold aCnt
    rw [ef (8 + b) s (by omega) (by omega), er (8 + b) (by omega)]
theorem all_cg2 {p q : Nat → Bool} : ∀ (n : Nat), (∀ k, k < n → p k = q k) → (List.range n).all p = (List.range n).all q := fun n h => by
  rw [Bool.eq_iff_iff, List.all_eq_true, List.all_eq_true]
  constructor
  · intro h1 k hk
    rw [← h k (List.mem_range.mp hk)]; exact h1 k hk
  · intro h1 k hk
    rw [h k (List.mem_range.mp hk)]; exact h1 k hk
theorem W1_fr2 {B M : Me} (h9 : M.2.2 0 0 9 = B.2.2 0 0 9) (h10 : M.2.2 0 0 10 = B.2.2 0 0 10) (hd4 : M.1 31 (B.2.2 0 0 10) 4 = B.1 31 (B.2.2 0 0 10) 4) (hd4' : M.1 36 (B.2.2 0 0 10) 4 = B.1 36 (B.2.2 0 0 10) 4) (h60 : ∀ k, k = 17 ∨ k = 18 ∨ k = 19 ∨ k = 23 → M.1 60 0 k = B.1 60 0 k) (hp : ∀ i k, 30 ≤ i → i ≤ 49 → i ≠ 44 → M.1 i (B.2.2 0 0 9) k = B.1 i (B.2.2 0 0 9) k) (h44 : ∀ r k, B.2.2 0 0 9 * 8 ≤ r → r < B.2.2 0 0 9 * 8 + 8 → M.1 44 r k = B.1 44 r k) (h62 : ∀ k, k < 36 → M.1 62 0 k = B.1 62 0 k) (h63 : ∀ k, k < 4 → M.1 63 0 k = B.1 63 0 k) (h64 : ∀ k, k < 8 → M.2.1 64 0 k = B.2.1 64 0 k) (hW : W1 B) : W1 M := by
  have ec : cN M = cN B := by unfold cN; rw [h60 17 (by omega)]
  have es : sN M = sN B := by unfold sN; rw [h60 18 (by omega)]
  have eb : bN M = bN B := by unfold bN; rw [h60 19 (by omega)]
  have eh : hT M = hT B := by unfold hT; rw [h60 23 (by omega)]
  obtain ⟨⟨a1, a2, a3⟩, ⟨b1', b2, b3⟩, ⟨c1, c2, c3⟩, ⟨⟨d1, d2, d3, d4, d5⟩, e1, f1, g1⟩, n1⟩ := hW
  obtain ⟨k1, k2, k3⟩ := clS_cg es b2.2 h62
  have h9p : pl M = pl B := h9
  have h10p : dr M = dr B := h10
  have h8 := b2.2
  have h4 := b3.2
  refine ⟨⟨?_, ?_, ?_⟩, ⟨?_, ?_, ?_⟩, ⟨?_, ?_, ?_⟩, ⟨⟨?_, ?_, ?_, ?_, ?_⟩, fun s hs => ⟨?_, ?_, ?_⟩, fun s hs => ⟨?_, ?_, ?_⟩, fun b hb => ⟨?_, ?_, ?_, ?_, ?_⟩⟩, fun s hs => ?_⟩
  · rw [h9p, h10p]; exact a1
  · rw [h10p, hd4]; exact a2
  · rw [h10p, hd4']; exact a3
  · rw [h60 17 (by omega), ec]; exact b1'
  · rw [h60 18 (by omega), es]; exact b2
  · rw [h60 19 (by omega), eb]; exact b3
  · rw [h60 23 (by omega), eh]; exact c1
  · rw [eh, es]; exact c2
  · rw [eh, ec]; exact c3
  · rw [h9p, hp _ _ (by omega) (by omega) (by omega), h60 17 (by omega)]; exact d1
  · rw [h9p, hp _ _ (by omega) (by omega) (by omega), h60 18 (by omega)]; exact d2
  · rw [h9p, hp _ _ (by omega) (by omega) (by omega), h60 19 (by omega)]; exact d3
  · rw [h9p, hp _ _ (by omega) (by omega) (by omega)]; exact d4
  · rw [h9p, hp _ _ (by omega) (by omega) (by omega)]; exact d5
  · rw [h9p, hp _ _ (by omega) (by omega) (by omega), k1]; exact (e1 s hs).1
  · rw [h9p, hp _ _ (by omega) (by omega) (by omega), k2]; exact (e1 s hs).2.1
  · rw [h9p, hp _ _ (by omega) (by omega) (by omega), (e1 s hs).2.2]
    congr 1
    funext j
    unfold opS
    rw [es, ec, eb]
    congr 2
    refine all_cg2 _ (fun b hb => ?_)
    rw [k3 b s (by omega) hs, h63 b (by omega)]
  · rw [es] at hs
    rw [h9p, hp _ _ (by omega) (by omega) (by omega), h62 _ (by omega)]; exact (f1 s hs).1
  · rw [es] at hs
    rw [h9p, hp _ _ (by omega) (by omega) (by omega), h62 _ (by omega)]; exact (f1 s hs).2.1
  · rw [es] at hs
    rw [h9p, hp _ _ (by omega) (by omega) (by omega), h62 _ (by omega)]; exact (f1 s hs).2.2
  · rw [eb] at hb
    rw [h9p, hp _ _ (by omega) (by omega) (by omega), h62 _ (by omega)]; exact (g1 b hb).1
  · rw [eb] at hb
    rw [h9p, hp _ _ (by omega) (by omega) (by omega), h62 _ (by omega)]; exact (g1 b hb).2.1
  · rw [eb] at hb
    rw [h9p, hp _ _ (by omega) (by omega) (by omega), h62 _ (by omega)]; exact (g1 b hb).2.2.1
  · rw [eb] at hb
    rw [h9p, hp _ _ (by omega) (by omega) (by omega), h63 _ (by omega)]; exact (g1 b hb).2.2.2.1
  · rw [eb] at hb
    rw [h9p, hp _ _ (by omega) (by omega) (by omega), (g1 b hb).2.2.2.2]
    congr 1
    funext t
    rw [es]
    by_cases c : t < sN B
    · rw [k3 b t (by omega) (by omega)]
    · rw [decide_eq_false c, Bool.false_and, Bool.false_and]
  · rw [es] at hs
    obtain ⟨⟨z, z1, z2⟩, w, l, m1, m2, m3, m4⟩ := n1 s hs
    refine ⟨⟨z, by rw [h62 _ (by omega)]; exact z1, z2⟩, w, l, m1, fun i hi => ?_, ?_, ?_⟩
    · show M.1 44 (s + pl M * 8) i = nI (w i) ∧ _
      rw [h9p, h44 (s + pl B * 8) i (show B.2.2 0 0 9 * 8 ≤ s + B.2.2 0 0 9 * 8 by omega) (show s + B.2.2 0 0 9 * 8 < B.2.2 0 0 9 * 8 + 8 by omega)]; exact m2 i hi
    · show M.1 45 (pl M) s = nI l
      rw [h9p, hp _ _ (by omega) (by omega) (by omega)]; exact m3
    · rw [h64 s (by omega)]; exact m4
