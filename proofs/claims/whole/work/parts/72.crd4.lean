/-! the class: readNot, readStation, readBorder -/
def notR (T : TT) (C b : Nat) : FL ⊕ (Int32 × Nat) := bif isW T 6 (.inr b) then notL T C 701 (nI 0) (tX T b) else .inl (1, b)
def NtP (T : TT) (p : Nat) (B : Me) (j k : Nat) (r : Option AV) (M' : Me) : FL ⊕ (Int32 × Nat) → Prop
  | .inl q => r = some (vI (nI 0)) ∧ ∃ B1, FrC p B B1 ∧ CMe T B1 (.inl q) M'
  | .inr z => r = some (vI (nI 1)) ∧ CMe T (sI B j p k z.1) (.inr z.2) M'
theorem mC_o {B : Me} {f : Nat → Int32} {i r k : Nat} (h : i ≠ 3) : (mC B f).1 i r k = B.1 i r k := by
  unfold mC
  dsimp only
  cases hc : Nat.beq i 3 with
  | false => rfl
  | true => exact absurd (Nat.beq_eq.mp hc) h
section CR4
variable (E : EV) (d : Nat) {T : TT} {B : Me}
theorem c_readNot {f : Nat → Int32} {b : Nat} (hS : StrOK E) (hT : CTp T B) (i p n k C : Nat) (hn : n = 8 ∧ i = 31 ∨ n = 4 ∧ i = 36) (hm : B.1 i p 4 = nI n) (hk : k < n) (hC : C ≤ 10) (h0 : B.1 (i + 4) p k = nI 0) (h : CT T f (.inr b)) : Mt E (d + 7) m_Reader_readNot [vP 3 0, vP i p, vI (nI k), vI (nI C)] (mC B f) (fun r M' => NtP T p B (i + 4) k r M' (notR T C b)) := by
  generalize hN : notR T C b = N
  generalize hQ : (fun r M' => NtP T p B (i + 4) k r M' N : Option AV → Me → Prop) = Q
  have t1 := hT.1
  have hz : PZc p (i + 4) p k := by unfold PZc; omega
  have hFv : ∀ v, FrC p B (sI B (i + 4) p k v) := fun v => FrC_sI (FrC_rf _ _) hz
  have hTv := fun v => CTp_FrC (hFv v) hT
  have hi : i = 31 ∨ i = 36 := by omega
  have hn8 : n ≤ 8 := by omega
  have bad : ∀ q, N = .inl q → ∀ B1, FrC p B B1 → ∀ M', CMe T B1 (.inl q) M' → Q (some (vI (nI 0))) M' := by
    intro q e B1 hF M' hM
    rw [← hQ]
    show NtP _ _ _ _ _ _ _ N
    rw [e]
    exact ⟨rfl, B1, hF, hM⟩
  have key : ∀ m f1 v b t, T.2 < f1 + b → f1 ≤ m → t + 1 ≤ b → N = notL T C f1 v b → ∀ f, CT T f (.inr b) → Wp E (d + 7) m_Reader_readNot 26 [some (vP 3 0), some (vP i p), some (vI (nI k)), some (vI (nI C)), some (vI (nI t))] [] (mC (sI B (i + 4) p k v) f) Q := by
    intro m
    induction m with
    | zero =>
      intro f1 v b t hf hm ht hN f h
      have := h.2.1
      omega
    | succ m ih =>
      intro f1 v b t hf hm ht hN f h
      have hb := h.2.1
      obtain ⟨f0, rfl⟩ : ∃ f0, f1 = f0 + 1 := ⟨f1 - 1, by omega⟩
      rw [notL] at hN
      have hwh := c_isWhole E d (B := sI B (i + 4) p k v) 1 C (by omega) (by omega) h
      cases hw : whl T 1 C (.inr b) with
      | inl q =>
        have hdp : dpF T C v b = false := by
          unfold dpF
          unfold whl at hw
          dsimp only at hw
          cases h3 : decide (tK T b = 3) with
          | false => rfl
          | true =>
            rw [h3, cond_true] at hw
            cases h4 : (decide (1 ≤ tN3 T b) && decide (tN3 T b ≤ C)) with
            | false => rfl
            | true => rw [h4] at hw; cases hw
        rw [hdp, cond_false, hw] at hN
        have hN : N = .inl q := hN
        rw [hw] at hwh
        obtain rfl | rfl := hi
        all_goals
          refine go ok_Reader_readNot [26] 60 ?_
          refine cLe (by omega) (by omega) (fun q => absurd q (by omega)) (fun _ => ?_)
          refine xc (d + 1) ok_Reader_isWhole hwh (by omega) ?_
          rintro r M2 ⟨rfl, hM⟩
          refine And.intro (fun e => absurd rfl e) (fun _ => And.intro (Or.inl rfl) ?_)
          exact bad q hN _ (hFv v) _ hM
      | inr z =>
        obtain ⟨b0, e0, ez, kk, lo, hi'⟩ := whl_inr hw
        cases e0
        have hgt := tX_gt (T := T) (by omega) hb t1
        have hchb := c_channelBit E d (mC (sI B (i + 4) p k v) f) (tN3 T b) lo
        have hnum : (mC (sI B (i + 4) p k v) f).1 3 0 6 = nI (tN3 T b) := h.2.2.2.2.2.2.1 kk
        have hch : (mC (sI B (i + 4) p k v) f).1 (i + 4) p k = v := by
          rw [mC_o (by omega), sI_at, if_pos ⟨rfl, rfl, rfl⟩]
        have hdp : dpF T C v b = bt v (tN3 T b - 1) := by
          unfold dpF
          rw [decide_eq_true kk, decide_eq_true lo, decide_eq_true hi']; rfl
        rw [hw] at hwh
        rw [← hnum] at hchb
        have step : bt v (tN3 T b - 1) = false → N = bif isG T 44 (.inr (tX T b)) then notL T C f0 (v ||| b1 (tN3 T b - 1)) (tX T (tX T b)) else .inr (v ||| b1 (tN3 T b - 1), tX T b) := by
          intro e
          rw [hdp, e, cond_false, hw, ez] at hN
          exact hN
        have dup : bt v (tN3 T b - 1) = true → N = .inl (3, b) := by
          intro e
          rw [hdp, e] at hN
          exact hN
        have hTn := hTv (v ||| b1 (tN3 T b - 1))
        have fin : ∀ f3, CT T f3 (.inr (tX T b)) → isG T 44 (.inr (tX T b)) = false → bt v (tN3 T b - 1) = false → Q (some (vI (nI 1))) (mC (sI B (i + 4) p k (v ||| b1 (tN3 T b - 1))) f3) := by
          intro f3 k3 eg e
          have hN := step e
          rw [eg] at hN
          rw [← hQ]
          show NtP _ _ _ _ _ _ _ N
          rw [hN]
          exact ⟨rfl, f3, rfl, k3⟩
        have sgn := fun f3 (k3 : CT T f3 (.inr (tX T b))) => c_isSign E d (f := f3) hTn 44 (by omega) k3
        have nxt' := fun f3 (k3 : CT T f3 (.inr (tX T b))) => c_nextToken E d (f := f3) hTn k3
        have tX2 : isG T 44 (.inr (tX T b)) = true → tX T b < tX T (tX T b) := fun e => by
          unfold isG at e
          simp only [Bool.and_eq_true, decide_eq_true_eq] at e
          exact tX_gt (by omega) (tX_le hb) t1
        have again : ∀ f4, CT T f4 (.inr (tX T (tX T b))) → isG T 44 (.inr (tX T b)) = true → bt v (tN3 T b - 1) = false → Wp E (d + 7) m_Reader_readNot 26 [some (vP 3 0), some (vP i p), some (vI (nI k)), some (vI (nI C)), some (vI (nI (t + 1)))] [] (mC (sI B (i + 4) p k (v ||| b1 (tN3 T b - 1))) f4) Q := by
          intro f4 k4 eg e
          have hN := step e
          rw [eg] at hN
          have := tX2 eg
          exact ih f0 _ _ (t + 1) (by omega) (by omega) (by omega) hN f4 k4
        have hj : tN3 T b - 1 < 32 := by omega
        have mem : ∀ f3, sI (mC (sI B (i + 4) p k v) f3) (i + 4) p k (v ||| b1 (tN3 T b - 1)) = mC (sI B (i + 4) p k (v ||| b1 (tN3 T b - 1))) f3 := fun f3 => by
          rw [mC_sIo (by omega), sI_sI]
        have tk := c_taken E d (hTv v) h kk
        have flt := c_faulty E d (B := sI B (i + 4) p k v) 3 h
        have hcb2 := fun M => c_channelBit E d M (tN3 T b) lo
        obtain rfl | rfl := hi
        all_goals
          refine go ok_Reader_readNot [26] 60 ?_
          refine cLe (by omega) (by omega) (fun q => absurd q (by omega)) (fun _ => ?_)
          refine xc (d + 1) ok_Reader_isWhole hwh (by omega) ?_
          rintro r M2 ⟨rfl, rfl⟩
          refine And.intro (fun _ => ?_) (fun e => absurd e (by decide))
          refine ix k (by first | exact (show k < 4 by omega) | exact (show k < 8 by omega)) rfl ?_
          refine xq d ok_CS_channelBit hchb (by omega) ?_
          rw [hch]
          refine And.intro (fun e => ?_) (fun e => ?_)
          · have e := (and_b1 hj).mp e
            refine ix k (by first | exact (show k < 4 by omega) | exact (show k < 8 by omega)) rfl ?_
            refine xc (d + 2) ok_Reader_taken tk (by omega) ?_
            rintro r M3 ⟨rfl, f3, rfl, k3⟩
            refine xq d ok_CS_channelBit (hcb2 _) (by omega) ?_
            refine ix k (by first | exact (show k < 4 by omega) | exact (show k < 8 by omega)) rfl ?_
            rw [hch, mem f3]
            refine xq d ok_Reader_isSign (sgn f3 k3) (by omega) ?_
            refine brN (fun eg => ?_) (fun eg => ?_)
            · refine xc (d + 1) ok_Reader_nextToken (nxt' f3 k3) (by omega) ?_
              rintro r M4 ⟨rfl, f4, rfl, k4⟩
              exact nm_r (nI_add _ _) (again f4 k4 eg e)
            · exact And.intro (Or.inr rfl) (fin f3 k3 eg e)
          · have e : bt v (tN3 T b - 1) = true := by
              cases hc : bt v (tN3 T b - 1) with
              | true => rfl
              | false => exact absurd ((and_b1 hj).mpr hc) e
            refine xc d ok_Reader_faulty flt (by omega) ?_
            rintro r M3 ⟨rfl, hM⟩
            refine And.intro (Or.inl rfl) ?_
            exact bad _ (dup e) _ (hFv v) _ hM
  have pw := c_passWord E d hS hT 6 (by omega) h
  unfold notR at hN
  cases hw : isW T 6 (.inr b) with
  | false =>
    rw [hw] at hN
    have hN : N = .inl (1, b) := hN.symm
    have en : ned T 6 (.inr b) = .inl (1, b) := by unfold ned; rw [hw]; rfl
    rw [en] at pw
    obtain ⟨rfl, rfl⟩ | ⟨rfl, rfl⟩ := hn
    all_goals
      refine Mt.go ok_Reader_readNot [26] 60 rfl ?_
      refine cLt (by omega) (by omega) (fun q => absurd q (by omega)) (fun _ => ?_)
      refine qLe hm rfl (by omega) (by omega) (fun q => absurd q (by omega)) (fun _ => ?_)
      refine xc (d + 6) ok_Reader_passWord pw (by omega) ?_
      rintro r M1 ⟨rfl, hM⟩
      refine And.intro (fun e => absurd rfl e) (fun _ => And.intro (Or.inl rfl) ?_)
      exact bad _ hN _ (FrC_rf _ _) _ hM
  | true =>
    rw [hw] at hN
    have hN : N = notL T C 701 (nI 0) (tX T b) := hN.symm
    have en : ned T 6 (.inr b) = .inr (tX T b) := by unfold ned; rw [hw]; rfl
    rw [en] at pw
    have hk2 : tK T b = 2 := by
      unfold isW at hw
      simp only [Bool.and_eq_true, decide_eq_true_eq] at hw
      exact hw.1
    have hgt := tX_gt (T := T) (by omega) h.2.1 t1
    have k0 := fun f1 (k1 : CT T f1 (.inr (tX T b))) => key 701 701 (nI 0) (tX T b) 0 (by omega) (Nat.le_refl _) (by omega) hN f1 k1
    rw [sI_self h0] at k0
    obtain ⟨rfl, rfl⟩ | ⟨rfl, rfl⟩ := hn
    all_goals
      refine Mt.go ok_Reader_readNot [26] 60 rfl ?_
      refine cLt (by omega) (by omega) (fun q => absurd q (by omega)) (fun _ => ?_)
      refine qLe hm rfl (by omega) (by omega) (fun q => absurd q (by omega)) (fun _ => ?_)
      refine xc (d + 6) ok_Reader_passWord pw (by omega) ?_
      rintro r M1 ⟨rfl, f1, rfl, k1⟩
      refine And.intro (fun _ => ?_) (fun e => absurd e (by decide))
      exact k0 f1 k1
end CR4
