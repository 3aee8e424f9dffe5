/-! texts: what they tell; the reference's readPlace, readNot -/
def bnd {α β : Type} (x : FL ⊕ α) (k : α → FL ⊕ β) : FL ⊕ β := Sum.elim Sum.inl k x
def nxt (W : FL ⊕ (Nat × Nat)) : FL ⊕ Nat := Sum.elim Sum.inl (fun z => Sum.inr z.2) W
def plcR (T : TT) (R : FL ⊕ Nat) : FL ⊕ Nat := nxt (whl T 1 60 (ned T 3 (nxt (whl T 0 99 (nxt (whl T 0 99 (ned T 2 R)))))))
/-- where the numbers of a place stand, behind the token that comes ahead of its at -/
def plX (T : TT) (b : Nat) : Nat := tN3 T (tX T b)
def plY (T : TT) (b : Nat) : Nat := tN3 T (tX T (tX T b))
def plZ (T : TT) (b : Nat) : Nat := tN3 T (tX T (tX T (tX T (tX T b))))
def dpF (T : TT) (C : Nat) (s : Int32) (b : Nat) : Bool := (decide (tK T b = 3) && (decide (1 ≤ tN3 T b) && decide (tN3 T b ≤ C))) && bt s (tN3 T b - 1)
def notL (T : TT) (C : Nat) : Nat → Int32 → Nat → FL ⊕ (Int32 × Nat)
  | 0, s, b => .inr (s, b)
  | f + 1, s, b => bif dpF T C s b then .inl (3, b) else bnd (whl T 1 C (.inr b)) (fun z => bif isG T 44 (.inr z.2) then notL T C f (s ||| b1 (z.1 - 1)) (tX T z.2) else .inr (s ||| b1 (z.1 - 1), z.2))
theorem whl_inr {T : TT} {lo hi : Nat} {R : FL ⊕ Nat} {z : Nat × Nat} (h : whl T lo hi R = .inr z) : ∃ b, R = .inr b ∧ z = (tN3 T b, tX T b) ∧ tK T b = 3 ∧ lo ≤ tN3 T b ∧ tN3 T b ≤ hi := by
  match R, h with
  | .inl q, h => cases h
  | .inr b, h =>
    unfold whl at h
    dsimp only at h
    by_cases h3 : tK T b = 3
    · rw [decide_eq_true h3, cond_true] at h
      cases hc : (decide (lo ≤ tN3 T b) && decide (tN3 T b ≤ hi)) with
      | false => rw [hc] at h; cases h
      | true =>
        rw [hc] at h
        cases h
        simp only [Bool.and_eq_true, decide_eq_true_eq] at hc
        exact ⟨b, rfl, rfl, h3, hc.1, hc.2⟩
    · rw [decide_eq_false h3] at h; cases h
theorem nxt_inr {W : FL ⊕ (Nat × Nat)} {b : Nat} (h : nxt W = .inr b) : ∃ n, W = .inr (n, b) := by
  match W, h with
  | .inl q, h => cases h
  | .inr z, h => cases h; exact ⟨z.1, rfl⟩
theorem gon_inr {T : TT} {R : FL ⊕ Nat} {b : Nat} (h : gon T R = .inr b) : ∃ a, R = .inr a ∧ b = tX T a := by
  match R, h with
  | .inl q, h => cases h
  | .inr z, h => cases h; exact ⟨z, rfl, rfl⟩
theorem flw_no {k : Nat} {R : FL ⊕ Nat} {b : Nat} (h : flw k R = .inr b) : False := by
  match R, h with
  | .inl q, h => cases h
  | .inr z, h => cases h
theorem ned_inr {T : TT} {i : Nat} {R : FL ⊕ Nat} {b : Nat} (h : ned T i R = .inr b) : ∃ a, R = .inr a ∧ isW T i (.inr a) = true ∧ b = tX T a := by
  unfold ned at h
  obtain ⟨a, h1, h2⟩ := gon_inr h
  cases hw : isW T i R with
  | false => rw [hw] at h1; exact (flw_no h1).elim
  | true =>
    rw [hw] at h1
    have h1 : R = .inr a := h1
    subst h1
    exact ⟨a, rfl, hw, h2⟩
theorem plc_inr {T : TT} {R : FL ⊕ Nat} {b' : Nat} (h : plcR T R = .inr b') : ∃ b, R = .inr b ∧ whl T 0 99 (ned T 2 R) = .inr (plX T b, tX T (tX T b)) ∧ whl T 0 99 (nxt (whl T 0 99 (ned T 2 R))) = .inr (plY T b, tX T (tX T (tX T b))) ∧ whl T 1 60 (ned T 3 (nxt (whl T 0 99 (nxt (whl T 0 99 (ned T 2 R)))))) = .inr (plZ T b, b') ∧ plX T b ≤ 99 ∧ plY T b ≤ 99 ∧ 1 ≤ plZ T b ∧ plZ T b ≤ 60 := by
  unfold plcR at h
  obtain ⟨n, h1⟩ := nxt_inr h
  obtain ⟨b3, e3, z3, k3, l3, u3⟩ := whl_inr h1
  obtain ⟨b4, e4, w4, x4⟩ := ned_inr e3
  obtain ⟨n5, e5⟩ := nxt_inr e4
  obtain ⟨b6, e6, z6, k6, l6, u6⟩ := whl_inr e5
  obtain ⟨n7, e7⟩ := nxt_inr e6
  obtain ⟨b8, e8, z8, k8, l8, u8⟩ := whl_inr e7
  obtain ⟨b9, e9, w9, x9⟩ := ned_inr e8
  subst e9
  cases z3; cases z6; cases z8
  subst x9
  subst x4
  exact ⟨b9, rfl, e7, e5, h1, u8, u6, l3, u3⟩
theorem WhP_x {T : TT} {B : Me} {v : Int32} {M' : Me} {W : FL ⊕ (Nat × Nat)} (h : WhP T B v M' W) : TMe T B (nxt W) M' ∧ ∀ z, W = .inr z → v = nI z.1 := by
  match W, h with
  | .inl q, h => exact ⟨h, fun z e => by cases e⟩
  | .inr z, h => exact ⟨h.2, fun z' e => by cases e; exact h.1⟩
theorem mT_sIo {B : Me} {f : Nat → Int32} {g : Int64} {i r k0 : Nat} {x : Int32} (h : ¬ (i = 60 ∧ 5 ≤ k0 ∧ k0 ≤ 12)) : sI (mT B f g) i r k0 x = mT (sI B i r k0 x) f g := by
  unfold sI mT up3
  refine Prod.ext ?_ rfl
  funext a b k
  dsimp only
  cases hc : (Nat.beq a i && (Nat.beq k k0 && Nat.beq b r)) with
  | false => rfl
  | true =>
    cases hd : (Nat.beq a 60 && (Nat.beq b 0 && (Nat.ble 5 k && Nat.ble k 12))) with
    | false => rfl
    | true =>
      simp only [Bool.and_eq_true, Nat.beq_eq, Nat.ble_eq] at hc hd
      exact absurd ⟨hc.1.symm.trans hd.1, by omega, by omega⟩ h
theorem mT_sJo {B : Me} {f : Nat → Int32} {g : Int64} {i r k0 : Nat} {x : Int64} (h : i ≠ 60) : sJ (mT B f g) i r k0 x = mT (sJ B i r k0 x) f g := by
  unfold sJ mT up3
  refine Prod.ext rfl (Prod.ext ?_ rfl)
  funext a b k
  dsimp only
  cases hc : (Nat.beq a i && (Nat.beq k k0 && Nat.beq b r)) with
  | false => rfl
  | true =>
    cases hd : (Nat.beq a 60 && (Nat.beq b 0 && Nat.beq k 13)) with
    | false => rfl
    | true =>
      simp only [Bool.and_eq_true, Nat.beq_eq] at hc hd
      exact absurd (hc.1.symm.trans hd.1) h
theorem tX_gt {T : TT} {b : Nat} (h : tK T b ≠ 1) (h2 : b ≤ T.2) (h7 : T.2 ≤ 700) : b < tX T b := by
  have hb : b ≠ T.2 := fun e => h (by unfold tK; rw [decide_eq_true e]; rfl)
  have h1 : b < tE T b := by
    unfold tE
    rw [decide_eq_false hb, cond_false]
    cases hl : tLe T b with
    | true =>
      rw [cond_true, rnU_t hl (by omega)]
      exact rnU_ge _ _
    | false =>
      rw [cond_false]
      cases hd : tDi T b with
      | true =>
        rw [cond_true, rnU_t hd (by omega)]
        exact rnU_ge _ _
      | false => exact Nat.lt_succ_self b
  exact Nat.lt_of_lt_of_le h1 (rnU_ge _ _)
/-- a place, read -/
def plB (B : Me) (at0 x y z : Nat) : Me := sI (sI (sI B 62 0 (3 * (12 + at0)) (nI x)) 62 0 (3 * (12 + at0) + 1) (nI y)) 62 0 (3 * (12 + at0) + 2) (nI z)
section P4
variable (E : EV) (d : Nat) {T : TT} {B : Me}
theorem r_readPlace {R : FL ⊕ Nat} {M : Me} (hS : StrOK E) (hT : RTt T B) (at0 : Nat) (ha : ∀ b, R = .inr b → at0 < 12) (h : TMe T B R M) : Mt E (d + 8) m_Mo_readPlace [vP 60 0, vI (nI at0)] M (fun r M' => r = none ∧ (∀ q, plcR T R = .inl q → TMe T B (.inl q) M') ∧ ∀ b b', R = .inr b → plcR T R = .inr b' → TMe T (plB B at0 (plX T b) (plY T b) (plZ T b)) (.inr b') M') := by
  generalize hQ : (fun r M' => r = none ∧ (∀ q, plcR T R = .inl q → TMe T B (.inl q) M') ∧ ∀ b b', R = .inr b → plcR T R = .inr b' → TMe T (plB B at0 (plX T b) (plY T b) (plZ T b)) (.inr b') M' : Option AV → Me → Prop) = Q
  obtain ⟨f, g, rfl, h⟩ := h
  refine Mt.go ok_Mo_readPlace [45] 60 rfl ?_
  refine xc (d + 7) ok_Mo_needs (r_needs E d hS hT 2 (by omega) h) (by omega) ?_
  rintro r M1 ⟨rfl, f1, g1, rfl, h1⟩
  refine xc (d + 4 + 3) ok_Mo_readWhole (r_readWhole E (d + 4) hT 0 99 (by omega) (by omega) h1) (by omega) ?_
  rintro r M2 ⟨vx, rfl, q2⟩
  obtain ⟨⟨f2, g2, rfl, h2⟩, ex⟩ := WhP_x q2
  refine xc (d + 4 + 3) ok_Mo_readWhole (r_readWhole E (d + 4) hT 0 99 (by omega) (by omega) h2) (by omega) ?_
  rintro r M3 ⟨vy, rfl, q3⟩
  obtain ⟨⟨f3, g3, rfl, h3⟩, ey⟩ := WhP_x q3
  refine xc (d + 7) ok_Mo_needs (r_needs E d hS hT 3 (by omega) h3) (by omega) ?_
  rintro r M4 ⟨rfl, f4, g4, rfl, h4⟩
  refine xc (d + 4 + 3) ok_Mo_readWhole (r_readWhole E (d + 4) hT 1 60 (by omega) (by omega) h4) (by omega) ?_
  rintro r M5 ⟨vr, rfl, q5⟩
  obtain ⟨⟨f5, g5, rfl, h5⟩, er⟩ := WhP_x q5
  have key : ∀ k1, k1 = nI (3 * (12 + at0)) → Wp E (d + 8) m_Mo_readPlace 45 [some (vP 60 0), some (vI (nI at0)), some (vI k1), some (vI vx), some (vI vy), some (vI vr)] [] (mT B f5 g5) Q := by
    rintro k1 rfl
    refine go ok_Mo_readPlace [] 60 ?_
    cases hp : plcR T R with
    | inl q =>
      have hp2 := hp
      unfold plcR at hp2
      rw [hp2] at h5
      obtain ⟨h51, h52, h53, h54, h55⟩ := id h5
      refine qLe h52 rfl (by omega) (by omega) (fun e => absurd e (by omega)) (fun _ => ?_)
      rw [← hQ]
      refine And.intro rfl ⟨fun q' e => ?_, fun b b' _ e => ?_⟩
      · rw [hp] at e; cases e
        exact ⟨f5, g5, rfl, h5⟩
      · rw [hp] at e; cases e
    | inr b' =>
      have hp2 := hp
      unfold plcR at hp2
      rw [hp2] at h5
      obtain ⟨b, rfl, w1, w2, w3, -⟩ := plc_inr hp
      have ex := ex _ w1
      have ey := ey _ w2
      have er := er _ w3
      subst ex; subst ey; subst er
      have ha := ha b rfl
      refine qLe h5.2.1 rfl (by omega) (by omega) (fun _ => ?_) (fun e => absurd e (by omega))
      refine ix (3 * (12 + at0)) (show _ < 72 by omega) rfl ?_
      refine ix (3 * (12 + at0) + 1) (show _ < 72 by omega) (nI_add _ _) ?_
      refine ix (3 * (12 + at0) + 2) (show _ < 72 by omega) (nI_add _ _) ?_
      rw [← hQ]
      refine And.intro rfl ⟨fun q' e => ?_, fun b1 b2 e1 e => ?_⟩
      · rw [hp] at e; cases e
      · rw [hp] at e; cases e; cases e1
        refine ⟨f5, g5, ?_, h5⟩
        unfold plB
        rw [← mT_sIo (by omega), ← mT_sIo (by omega), ← mT_sIo (by omega)]
  have := key _ rfl
  rw [← nI_mul, ← nI_add] at this
  exact this
theorem r_readNot {f : Nat → Int32} {g : Int64} (hT : RTt T B) {C : Nat} (hC : C ≤ 10) (hB : B.1 60 0 20 = nI C) (b : Nat) (h : TS T f g (.inr b)) : Mt E (d + 4) m_Mo_readNot [vP 60 0] (mT B f g) (fun r M' => ∃ v, r = some (vI v) ∧ (∀ q, notL T C 701 (nI 0) (tX T b) = .inl q → TMe T B (.inl q) M') ∧ ∀ z, notL T C 701 (nI 0) (tX T b) = .inr z → v = z.1 ∧ TMe T B (.inr z.2) M') := by
  generalize hN : notL T C 701 (nI 0) (tX T b) = N
  generalize hQ : (fun r M' => ∃ v, r = some (vI v) ∧ (∀ q, N = .inl q → TMe T B (.inl q) M') ∧ ∀ z, N = .inr z → v = z.1 ∧ TMe T B (.inr z.2) M' : Option AV → Me → Prop) = Q
  have h7 := hT.1
  -- the way out
  have fin : ∀ v l3 M', (∀ q, N = .inl q → TMe T B (.inl q) M') → (∀ z, N = .inr z → v = z.1 ∧ TMe T B (.inr z.2) M') → Wp E (d + 4) m_Mo_readNot 4 [some (vP 60 0), some (vI v), some (vI (nI 0)), l3] [] M' Q := by
    intro v l3 M' q1 q2
    refine go ok_Mo_readNot [] 60 ?_
    refine And.intro (fun _ => ?_) (fun e => absurd rfl e)
    rw [← hQ]
    exact ⟨v, rfl, q1, q2⟩
  -- behind a fault
  have bad : ∀ q, N = .inl q → ∀ v l3 M', TMe T B (.inl q) M' → Wp E (d + 4) m_Mo_readNot 60 [some (vP 60 0), some (vI v), some (vI (nI 1)), l3] [] M' Q := by
    rintro q hq v l3 M' ⟨f', g', rfl, h'⟩
    refine go ok_Mo_readNot [4, 85] 60 ?_
    have hx := r_readWhole E d (B := B) hT 1 C (by omega) (by omega) h'
    rw [← hB] at hx
    refine xc (d + 3) ok_Mo_readWhole hx (by omega) ?_
    rintro r M2 ⟨v2, rfl, f2, g2, rfl, h2⟩
    obtain ⟨e1, e2, e3, e4, e5⟩ := id h2
    refine qNe e2 rfl (by omega) (by omega) (fun _ => ?_) (fun e => absurd e (by omega))
    refine go ok_Mo_readNot [4] 60 ?_
    refine xq d ok_Mo_isSign (r_isSign E d hT 44 (by omega) h2) (by omega) ?_
    refine fin v _ _ (fun q' e => ?_) (fun z e => ?_)
    · rw [hq] at e; cases e; exact ⟨f2, g2, rfl, h2⟩
    · rw [hq] at e; cases e
  have key : ∀ n f1 v b, T.2 < f1 + tX T b → f1 ≤ n → b ≤ T.2 → N = notL T C f1 v (tX T b) → ∀ l3 f g, TS T f g (.inr b) → Wp E (d + 4) m_Mo_readNot 4 [some (vP 60 0), some (vI v), some (vI (nI 1)), l3] [] (mT B f g) Q := by
    intro n
    induction n with
    | zero =>
      intro f1 v b hf hn hb
      have := tX_le hb
      omega
    | succ n ih =>
      intro f1 v b hf hn hb hNe l3 f g h
      have hbx := tX_le hb
      obtain ⟨f0, rfl⟩ : ∃ f0, f1 = f0 + 1 := ⟨f1 - 1, by omega⟩
      rw [notL] at hNe
      refine go ok_Mo_readNot [60] 60 ?_
      refine And.intro (fun e => absurd e (by decide)) (fun _ => ?_)
      refine xc (d + 2) ok_Mo_goOn (r_goOn E d hT h) (by omega) ?_
      rintro r M2 ⟨rfl, f2, g2, rfl, h2⟩
      have h2 : TS T f2 g2 (.inr (tX T b)) := h2
      generalize tX T b = c at *
      obtain ⟨e1, e2, e3, e4, e5, e6, e7, e8, e9⟩ := id h2
      have hk := tK_lt T c
      -- from the whole on
      have on : dpF T C v c = false → ∀ l3, Wp E (d + 4) m_Mo_readNot 60 [some (vP 60 0), some (vI v), some (vI (nI 1)), l3] [] (mT B f2 g2) Q := by
        intro hdp l3
        rw [hdp, cond_false] at hNe
        refine go ok_Mo_readNot [4, 85] 60 ?_
        have hx := r_readWhole E d (B := B) hT 1 C (by omega) (by omega) h2
        rw [← hB] at hx
        refine xc (d + 3) ok_Mo_readWhole hx (by omega) ?_
        rintro r M3 ⟨v3, rfl, q3⟩
        cases hw : whl T 1 C (.inr c) with
        | inl q =>
          rw [hw] at q3 hNe
          obtain ⟨f3, g3, rfl, h3⟩ := q3
          obtain ⟨e1, e2, e3, e4, e5⟩ := id h3
          refine qNe e2 rfl (by omega) (by omega) (fun _ => ?_) (fun e => absurd e (by omega))
          refine go ok_Mo_readNot [4] 60 ?_
          refine xq d ok_Mo_isSign (r_isSign E d hT 44 (by omega) h3) (by omega) ?_
          have hNe : N = .inl q := hNe
          refine fin v _ _ (fun q' e => ?_) (fun z e => ?_)
          · rw [hNe] at e; cases e; exact ⟨f3, g3, rfl, h3⟩
          · rw [hNe] at e; cases e
        | inr z =>
          rw [hw] at q3 hNe
          obtain ⟨ev, f3, g3, rfl, h3⟩ := q3
          obtain ⟨b0, eb, ez, k3, l3, u3⟩ := whl_inr hw
          cases eb
          subst ez
          have hNe : N = bif isG T 44 (.inr (tX T c)) then notL T C f0 (v ||| b1 (tN3 T c - 1)) (tX T (tX T c)) else .inr (v ||| b1 (tN3 T c - 1), tX T c) := hNe
          refine qNe h3.2.1 rfl (by omega) (by omega) (fun e => absurd e (by omega)) (fun _ => ?_)
          have tail : ∀ v', v' = v ||| b1 (tN3 T c - 1) → Wp E (d + 4) m_Mo_readNot 85 [some (vP 60 0), some (vI v'), some (vI (nI 1)), some (vI v3)] [] (mT B f3 g3) Q := by
            intro v' ev'
            rw [← ev'] at hNe
            refine go ok_Mo_readNot [4] 60 ?_
            refine xq d ok_Mo_isSign (r_isSign E d hT 44 (by omega) h3) (by omega) ?_
            cases hg : isG T 44 (.inr (tX T c)) with
            | false =>
              rw [hg] at hNe
              have hNe : N = .inr (v', tX T c) := hNe
              refine fin v' _ _ (fun q' e => ?_) (fun z e => ?_)
              · rw [hNe] at e; cases e
              · rw [hNe] at e; cases e; exact ⟨rfl, f3, g3, rfl, h3⟩
            | true =>
              rw [hg, cond_true] at hNe
              have hg2 : tK T (tX T c) = 4 := by
                unfold isG at hg
                simp only [Bool.and_eq_true, decide_eq_true_eq] at hg
                exact hg.1
              have g1 := tX_gt (T := T) (b := c) (by omega) e3 h7
              have g2 := tX_gt (T := T) (b := tX T c) (by omega) (tX_le e3) h7
              exact ih f0 v' (tX T c) (by omega) (by omega) (tX_le e3) hNe _ f3 g3 h3
          have ht := tail _ rfl
          have e1 : v3 - nI 1 = nI (tN3 T c - 1) := by rw [ev]; exact nI_m1 (by omega)
          unfold b1 at ht
          rw [← e1] at ht
          exact ht
      refine qNe e2 rfl (by omega) (by omega) (fun e => absurd e (by omega)) (fun _ => ?_)
      refine qNe e5 rfl (by omega) (by omega) (fun e => ?_) (fun e => ?_)
      · refine on ?_ _
        unfold dpF; rw [decide_eq_false e]; rfl
      · have hn := tN3_lt e
        have e12 : (mT B f2 g2).1 60 0 12 = nI (tN3 T c) := e8 e
        refine xq d ok_Mo_in (r_in E d _ _ _ _) (by omega) ?_
        have ein : (decide (nI 1 ≤ (mT B f2 g2).1 60 0 12) && decide ((mT B f2 g2).1 60 0 12 ≤ (mT B f2 g2).1 60 0 20)) = (decide (1 ≤ tN3 T c) && decide (tN3 T c ≤ C)) := by
          rw [e12, show (mT B f2 g2).1 60 0 20 = nI C from hB]
          congr 1 <;> exact decide_eq_decide.mpr (nI_leI (by omega) (by omega))
        rw [ein]
        refine brF (fun c1 => ?_) (fun c1 => ?_)
        · refine on ?_ _
          unfold dpF; rw [c1, Bool.and_false]; rfl
        · have c2 := c1
          simp only [Bool.and_eq_true, decide_eq_true_eq] at c2
          have hx := r_has E d (mT B f2 g2) v (tN3 T c - 1) (by omega)
          rw [← nI_m1 (by omega), ← e12] at hx
          refine xq d ok_Mo_has hx (by omega) ?_
          refine brF (fun c3 => ?_) (fun c3 => ?_)
          · refine on ?_ _
            unfold dpF; rw [c3, Bool.and_false]
          · refine xc d ok_Mo_flaw (r_flaw E d 3 (by omega) (by omega) h2) (by omega) ?_
            rintro r M3 ⟨rfl, h3⟩
            refine bad (3, c) ?_ v _ _ h3
            rw [hNe]
            have : dpF T C v c = true := by unfold dpF; rw [c1, c3, decide_eq_true e]; rfl
            rw [this]; rfl
  refine Mt.go ok_Mo_readNot [4] 60 rfl ?_
  exact key 701 701 (nI 0) b (by omega) (by omega) h.2.2.1 hN.symm _ f g h
end P4
