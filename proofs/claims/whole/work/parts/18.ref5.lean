/-! the reference: acts, images -/
theorem remM_o {M : Me} {i r k : Nat} (h1 : i ≠ 67) (h2 : ¬ (i = 60 ∧ k = 29)) : (remM M).1 i r k = M.1 i r k := by
  unfold remM
  cases decide (acN M = 10)
  · show (sI (setR M 67 0 (acN M * 26) 26 (M.1 65 0)) 60 0 29 (nI (acN M + 1))).1 i r k = _
    show up3 _ 60 0 29 _ i r k = _
    rw [up3_ne (fun z => h2 ⟨z.1, z.2.2⟩), setR_out (fun z => h1 z.1)]
  · show (sI (setR (rem9 M) 67 0 234 26 (M.1 65 0)) 60 0 29 (nI 10)).1 i r k = _
    show up3 _ 60 0 29 _ i r k = _
    rw [up3_ne (fun z => h2 ⟨z.1, z.2.2⟩), setR_out (fun z => h1 z.1)]
    unfold rem9
    rw [setR_out (fun z => h1 z.1)]
    show up3 _ 60 0 29 _ i r k = _
    rw [up3_ne (fun z => h2 ⟨z.1, z.2.2⟩)]
abbrev M0 (M : Me) : Me := sI M 60 0 0 (nI 0)
abbrev RT (M : Me) (t : Nat) (v : Int32) (N : Me) : Option AV → Me → Prop := fun r M' => (t ≠ 0 ∧ RQ M (no t) r M') ∨ (t = 0 ∧ r = some (vI v) ∧ M' = fin0 N)
def tMove (M : Me) (x y z : Int32) : Nat := bif !aSt M x then 1 else bif !aCh M y then 2 else bif decide (z = nI 0) && !aMay M (tN x) (tN y) then 5 else 0
def tBuy (M : Me) (x y : Int32) : Nat := bif !aSt M x then 1 else bif !in3 y 999 then 2 else bif !aOn M (tN x) then 5 else 0
def tAir (M : Me) (x : Int32) : Nat := bif !aSt M x then 1 else bif aOn M (tN x) || !aMay M (tN x) (oN M (tN x)) then 5 else 0
def tVal (M : Me) (x y : Int32) : Nat := bif !aSt M x then 1 else bif !in3 y 999 then 2 else 0
def tBan (M : Me) (x y : Int32) : Nat := bif !aSt M x then 1 else bif !aCh M y then 2 else 0
def tUndo (M : Me) : Nat := bif !hT M then 1 else bif decide (acN M = 0) then 5 else 0
def nMove (M : Me) (x y : Int32) : Me := sI (remM (M0 M)) 65 0 (tN x) y
def nBuy (M : Me) (x y : Int32) : Me := sI (sI (remM (M0 M)) 65 0 24 (M.1 65 0 24 &&& (b1 (tN x) ^^^ -(nI 1)))) 65 0 25 (M.1 65 0 25 + y)
def nAir (M : Me) (x : Int32) : Me := sI (remM (M0 M)) 65 0 24 (M.1 65 0 24 ||| b1 (tN x))
def nVal (M : Me) (x y : Int32) : Me := sI (remM (M0 M)) 65 0 (8 + tN x) y
def nBan (M : Me) (x y : Int32) : Me := sI (remM (M0 M)) 65 0 (16 + tN x) (M.1 65 0 (16 + tN x) ^^^ b1 (tN y - 1))
def nUndo (M : Me) : Me := setR (sI (M0 M) 60 0 29 (nI (acN M - 1))) 65 0 0 26 (fun k => M.1 67 0 ((acN M - 1) * 26 + k))
theorem rt_no {M N : Me} {t : Nat} {v : Int32} (k : Nat) (e : t = k) (hk : k ≠ 0) : RT M t v N (some (vI (-(nI 1)))) (sI (sI (M0 M) 60 0 1 (nI k)) 60 0 2 (-(nI 1))) := by
  subst e
  exact Or.inl ⟨hk, rfl, rfl⟩
section R6
variable (E : EV) (d : Nat) (M : Me)
theorem x_rem {K : Option AV → Me → Prop} {m : Me} (hA : RA m) (h0 : 0 < d) (hk : K none (remM m)) : codeW m_Mo_remembers ∈ TW ∧ CallK E d m_Mo_remembers [vP 60 0] m K :=
  xc 0 ok_Mo_remembers (r_remembers E 0 m hA) h0 (fun r M' h => by rw [h.1, h.2]; exact hk)
theorem r_move (hX : RX M) (hA : RA M) (x y z : Int32) (hz : z = nI 0 ∨ z = nI 1) : Mt E (d + 5) m_Mo_move [vP 60 0, vI x, vI y, vI z] M (RT M (tMove M x y z) (M.1 65 0 (tN x)) (nMove M x y)) := by
  have hR := hX.1
  have hX0 : RX (M0 M) := hX
  have hn := hR.2.1.2
  refine Mt.go ok_Mo_move [52] 60 rfl ?_
  have key : ∀ s, s < 8 → x = nI s → tMove M x y z = 0 → Wp E (d + 5) m_Mo_move 52 [some (vP 60 0), some (vI x), some (vI y), some (vI z), none] [] (M0 M) (RT M (tMove M x y z) (M.1 65 0 (tN x)) (nMove M x y)) := by
    rintro s hs rfl ht
    have e1 : tN (nI s) = s := tN_nI (by omega)
    refine go ok_Mo_move [] 60 ?_
    refine x_rem E _ hA (by omega) ?_
    refine ix s (show _ < 26 by omega) (by rw [nI_s8, Nat.zero_add]) ?_
    refine ix s (show _ < 26 by omega) (by rw [nI_s8, Nat.zero_add]) ?_
    refine x_good E _ _ (by omega) ?_
    refine Or.inr ⟨ht, ?_, ?_⟩
    · rw [e1, remM_o (by omega) (by omega)]; rfl
    · unfold nMove; rw [e1]; rfl
  refine xq (d + 1) ok_Mo_isStation (r_isStation E d _ hX0 x) (by omega) ?_
  refine brN (fun h1 => ?_) (fun h1 => ?_)
  · have h1 : aSt M x = true := h1
    obtain ⟨s, hs, rfl⟩ := aSt_at hR h1
    have e1 : tN (nI s) = s := tN_nI (by omega)
    refine xq (d + 1) ok_Mo_isChannel (r_isChannel E d _ hX0.1 y) (by omega) ?_
    refine brN (fun h2 => ?_) (fun h2 => ?_)
    · have h2 : aCh M y = true := h2
      obtain ⟨c, hc1, hc2, rfl⟩ := aCh_at hR h2
      have hc3 := hR.1.2
      have e2 : tN (nI c) = c := tN_nI (by omega)
      refine And.intro (fun q => ?_) (fun q => ?_)
      · refine key s (by omega) rfl ?_
        unfold tMove; rw [h1, h2, decide_eq_false q]; rfl
      · refine xq (d + 4) ok_Mo_mayBe (r_mayBe E d _ hX0.1 s c (by omega) (by omega) (by omega)) (by omega) ?_
        refine brN (fun h3 => ?_) (fun h3 => ?_)
        · have h3 : aMay M s c = true := h3
          refine key s (by omega) rfl ?_
          unfold tMove; rw [h1, h2, e1, e2, h3, decide_eq_true q]; rfl
        · have h3 : aMay M s c = false := h3
          refine x_ref E _ (nI 5) (by omega) ?_
          refine rt_no 5 ?_ (by omega)
          unfold tMove; rw [h1, h2, e1, e2, h3, decide_eq_true q]; rfl
    · have h2 : aCh M y = false := h2
      refine x_ref E _ (nI 2) (by omega) ?_
      refine rt_no 2 ?_ (by omega)
      unfold tMove; rw [h1, h2]; rfl
  · have h1 : aSt M x = false := h1
    refine x_ref E _ (nI 1) (by omega) ?_
    refine rt_no 1 ?_ (by omega)
    unfold tMove; rw [h1]; rfl
theorem r_buy (hX : RX M) (hA : RA M) (x y : Int32) : Mt E (d + 2) m_Mo_buy [vP 60 0, vI x, vI y] M (RT M (tBuy M x y) (M.1 65 0 25 + y) (nBuy M x y)) := by
  have hR := hX.1
  have hX0 : RX (M0 M) := hX
  have hn := hR.2.1.2
  refine Mt.go ok_Mo_buy [] 80 rfl ?_
  refine xq (d + 1) ok_Mo_isStation (r_isStation E d _ hX0 x) (by omega) ?_
  refine brN (fun h1 => ?_) (fun h1 => ?_)
  · have h1 : aSt M x = true := h1
    obtain ⟨s, hs, rfl⟩ := aSt_at hR h1
    have e1 : tN (nI s) = s := tN_nI (by omega)
    refine xq d ok_Mo_in (r_in E d _ _ _ _) (by omega) ?_
    refine brN (fun h2 => ?_) (fun h2 => ?_)
    · have h2 : in3 y 999 = true := h2
      refine xq (d + 1) ok_Mo_isOn (r_isOn E d _ s (by omega)) (by omega) ?_
      refine brN (fun h3 => ?_) (fun h3 => ?_)
      · have h3 : aOn M s = true := h3
        refine x_rem E _ hA (by omega) ?_
        refine ix 24 (show _ < 26 by omega) rfl ?_
        refine ix 24 (show _ < 26 by omega) rfl ?_
        refine ix 25 (show _ < 26 by omega) rfl ?_
        refine ix 25 (show _ < 26 by omega) rfl ?_
        refine ix 25 (show _ < 26 by omega) rfl ?_
        refine x_good E _ _ (by omega) ?_
        have e24 : (remM (M0 M)).1 65 0 24 = M.1 65 0 24 := remM_o (by omega) (by omega)
        have e25 : (remM (M0 M)).1 65 0 25 = M.1 65 0 25 := remM_o (by omega) (by omega)
        refine Or.inr ⟨?_, ?_, ?_⟩
        · unfold tBuy; rw [h1, h2, e1, h3]; rfl
        · show some (vI ((remM (M0 M)).1 65 0 25 + y)) = _
          rw [e25]
        · unfold nBuy
          rw [e1, ← e24, ← e25]; rfl
      · have h3 : aOn M s = false := h3
        refine x_ref E _ (nI 5) (by omega) ?_
        refine rt_no 5 ?_ (by omega)
        unfold tBuy; rw [h1, h2, e1, h3]; rfl
    · have h2 : in3 y 999 = false := h2
      refine x_ref E _ (nI 2) (by omega) ?_
      refine rt_no 2 ?_ (by omega)
      unfold tBuy; rw [h1, h2]; rfl
  · have h1 : aSt M x = false := h1
    refine x_ref E _ (nI 1) (by omega) ?_
    refine rt_no 1 ?_ (by omega)
    unfold tBuy; rw [h1]; rfl
theorem r_air (hX : RX M) (hA : RA M) (x : Int32) : Mt E (d + 5) m_Mo_air [vP 60 0, vI x] M (RT M (tAir M x) (aBits (M.1 65 0 24 ||| b1 (tN x)) 16) (nAir M x)) := by
  have hR := hX.1
  have hX0 : RX (M0 M) := hX
  have hn := hR.2.1.2
  refine Mt.go ok_Mo_air [] 80 rfl ?_
  refine xq (d + 1) ok_Mo_isStation (r_isStation E d _ hX0 x) (by omega) ?_
  refine brN (fun h1 => ?_) (fun h1 => ?_)
  · have h1 : aSt M x = true := h1
    obtain ⟨s, hs, rfl⟩ := aSt_at hR h1
    obtain ⟨ho1, ho2, ho3⟩ := hR.2.2.2 s hs
    have e1 : tN (nI s) = s := tN_nI (by omega)
    refine xq (d + 1) ok_Mo_isOn (r_isOn E d _ s (by omega)) (by omega) ?_
    refine brN (fun h2 => ?_) (fun h2 => ?_)
    · have h2 : aOn M s = true := h2
      refine x_ref E _ (nI 5) (by omega) ?_
      refine rt_no 5 ?_ (by omega)
      unfold tAir; rw [h1, e1, h2]; rfl
    · have h2 : aOn M s = false := h2
      refine ix s (show _ < 26 by omega) (by rw [nI_s8, Nat.zero_add]) ?_
      have ho4 : (M0 M).1 65 0 s = nI (oN M s) := ho1
      refine xq (d + 4) ok_Mo_mayBe (by rw [ho4]; exact r_mayBe E d _ hX0.1 s (oN M s) (by omega) (by omega) (by omega)) (by omega) ?_
      refine brN (fun h3 => ?_) (fun h3 => ?_)
      · have h3 : aMay M s (oN M s) = true := h3
        refine x_rem E _ hA (by omega) ?_
        refine ix 24 (show _ < 26 by omega) rfl ?_
        refine ix 24 (show _ < 26 by omega) rfl ?_
        refine ix 24 (show _ < 26 by omega) rfl ?_
        have e24 : (remM (M0 M)).1 65 0 24 = M.1 65 0 24 := remM_o (by omega) (by omega)
        refine xq d ok_Mo_bits (r_bits E d _ _) (by omega) ?_
        refine x_good E _ _ (by omega) ?_
        refine Or.inr ⟨?_, ?_, ?_⟩
        · unfold tAir; rw [h1, e1, h2, h3]; rfl
        · rw [e1, ← e24]; rfl
        · unfold nAir
          rw [e1, ← e24]; rfl
      · have h3 : aMay M s (oN M s) = false := h3
        refine x_ref E _ (nI 5) (by omega) ?_
        refine rt_no 5 ?_ (by omega)
        unfold tAir; rw [h1, e1, h2, h3]; rfl
  · have h1 : aSt M x = false := h1
    refine x_ref E _ (nI 1) (by omega) ?_
    refine rt_no 1 ?_ (by omega)
    unfold tAir; rw [h1]; rfl
theorem r_value (hX : RX M) (hA : RA M) (x y : Int32) : Mt E (d + 2) m_Mo_value [vP 60 0, vI x, vI y] M (RT M (tVal M x y) (M.1 65 0 (8 + tN x)) (nVal M x y)) := by
  have hR := hX.1
  have hX0 : RX (M0 M) := hX
  have hn := hR.2.1.2
  refine Mt.go ok_Mo_value [] 80 rfl ?_
  refine xq (d + 1) ok_Mo_isStation (r_isStation E d _ hX0 x) (by omega) ?_
  refine brN (fun h1 => ?_) (fun h1 => ?_)
  · have h1 : aSt M x = true := h1
    obtain ⟨s, hs, rfl⟩ := aSt_at hR h1
    have e1 : tN (nI s) = s := tN_nI (by omega)
    refine xq d ok_Mo_in (r_in E d _ _ _ _) (by omega) ?_
    refine brN (fun h2 => ?_) (fun h2 => ?_)
    · have h2 : in3 y 999 = true := h2
      refine x_rem E _ hA (by omega) ?_
      refine ix (8 + s) (show _ < 26 by omega) (nI_s8 8 s) ?_
      refine ix (8 + s) (show _ < 26 by omega) (nI_s8 8 s) ?_
      refine x_good E _ _ (by omega) ?_
      refine Or.inr ⟨?_, ?_, ?_⟩
      · unfold tVal; rw [h1, h2]; rfl
      · rw [e1, remM_o (by omega) (by omega)]; rfl
      · unfold nVal; rw [e1]; rfl
    · have h2 : in3 y 999 = false := h2
      refine x_ref E _ (nI 2) (by omega) ?_
      refine rt_no 2 ?_ (by omega)
      unfold tVal; rw [h1, h2]; rfl
  · have h1 : aSt M x = false := h1
    refine x_ref E _ (nI 1) (by omega) ?_
    refine rt_no 1 ?_ (by omega)
    unfold tVal; rw [h1]; rfl
theorem r_ban (hX : RX M) (hA : RA M) (x y : Int32) : Mt E (d + 2) m_Mo_ban [vP 60 0, vI x, vI y] M (RT M (tBan M x y) (M.1 65 0 (16 + tN x) ^^^ b1 (tN y - 1)) (nBan M x y)) := by
  have hR := hX.1
  have hX0 : RX (M0 M) := hX
  have hn := hR.2.1.2
  refine Mt.go ok_Mo_ban [] 80 rfl ?_
  refine xq (d + 1) ok_Mo_isStation (r_isStation E d _ hX0 x) (by omega) ?_
  refine brN (fun h1 => ?_) (fun h1 => ?_)
  · have h1 : aSt M x = true := h1
    obtain ⟨s, hs, rfl⟩ := aSt_at hR h1
    have e1 : tN (nI s) = s := tN_nI (by omega)
    refine xq (d + 1) ok_Mo_isChannel (r_isChannel E d _ hX0.1 y) (by omega) ?_
    refine brN (fun h2 => ?_) (fun h2 => ?_)
    · have h2 : aCh M y = true := h2
      obtain ⟨c, hc1, hc2, rfl⟩ := aCh_at hR h2
      have hc3 := hR.1.2
      have e2 : tN (nI c) = c := tN_nI (by omega)
      refine x_rem E _ hA (by omega) ?_
      refine ix (16 + s) (show _ < 26 by omega) (nI_s8 16 s) ?_
      refine ix (16 + s) (show _ < 26 by omega) (nI_s8 16 s) ?_
      refine ix (16 + s) (show _ < 26 by omega) (nI_s8 16 s) ?_
      refine x_good E _ _ (by omega) ?_
      have e16 : (remM (M0 M)).1 65 0 (16 + s) = M.1 65 0 (16 + s) := remM_o (by omega) (by omega)
      refine Or.inr ⟨?_, ?_, ?_⟩
      · unfold tBan; rw [h1, h2]; rfl
      · rw [e1, e2, ← e16, nI_m1 (by omega)]
        show some (vI (up3 _ 65 0 (16 + s) _ 65 0 (16 + s))) = _
        rw [up3_same]; rfl
      · unfold nBan; rw [e1, e2, ← e16, nI_m1 (by omega)]; rfl
    · have h2 : aCh M y = false := h2
      refine x_ref E _ (nI 2) (by omega) ?_
      refine rt_no 2 ?_ (by omega)
      unfold tBan; rw [h1, h2]; rfl
  · have h1 : aSt M x = false := h1
    refine x_ref E _ (nI 1) (by omega) ?_
    refine rt_no 1 ?_ (by omega)
    unfold tBan; rw [h1]; rfl
theorem r_undo (hX : RX M) (hA : RA M) : Mt E (d + 1) m_Mo_undo [vP 60 0] M (RT M (tUndo M) (nI (acN M - 1)) (nUndo M)) := by
  obtain ⟨ha, ha'⟩ := id hA
  refine Mt.go ok_Mo_undo [43] 60 rfl ?_
  refine qN hX.2 (fun h => ?_) (fun h => ?_)
  · refine qNe ha rfl (by omega) (by omega) (fun h1 => ?_) (fun h1 => ?_)
    · have ht : tUndo M = 0 := by unfold tUndo; rw [h, decide_eq_false h1]; rfl
      have e9 : M.1 60 0 29 - nI 1 = nI (acN M - 1) := by rw [ha, nI_m1 (by omega)]
      have key : ∀ k, k ≤ 26 → ∀ N, N = setR (sI (M0 M) 60 0 29 (nI (acN M - 1))) 65 0 0 k (fun k => M.1 67 0 ((acN M - 1) * 26 + k)) → Wp E (d + 1) m_Mo_undo 43 [some (vP 60 0), some (vI (nI k))] [] N (RT M (tUndo M) (nI (acN M - 1)) (nUndo M)) := by
        refine loopUp 26 ?_ ?_
        · rintro N rfl
          refine go ok_Mo_undo [43] 60 ?_
          refine cLe (by omega) (by omega) (fun _ => ?_) (fun c => absurd c (by omega))
          refine x_good E _ _ (by omega) ?_
          exact Or.inr ⟨ht, rfl, rfl⟩
        · rintro k hlt ih N rfl
          refine go ok_Mo_undo [43] 60 ?_
          refine cLe (by omega) (by omega) (fun h => absurd h (by omega)) (fun _ => ?_)
          refine ix ((acN M - 1) * 26 + k) (show _ < 260 by omega) (by show nI (acN M - 1) * nI 26 + nI k = _; rw [nI_mul, nI_s8]) ?_
          refine ix k (show _ < 26 by omega) rfl ?_
          refine nm_r (nI_add _ _) (ih _ ?_)
          rw [← setR_step, Nat.zero_add]; rfl
      refine key 0 (by omega) _ ?_
      rw [setR_0, ← e9]; rfl
    · refine x_ref E _ (nI 5) (by omega) ?_
      refine rt_no 5 ?_ (by omega)
      unfold tUndo; rw [h, decide_eq_true h1]; rfl
  · refine x_ref E _ (nI 1) (by omega) ?_
    refine rt_no 1 ?_ (by omega)
    unfold tUndo; rw [h]; rfl
end R6
