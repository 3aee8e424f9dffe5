/-! a question: class and reference answer alike -/
def g4 (p : AT) : Prop := p.2 ≠ nI 4
theorem g4_ye (v : Int32) : g4 (ye v) := by
  show nI 0 ≠ nI 4
  decide
theorem g4_no {t : Nat} (h : t = 0 ∨ t = 1 ∨ t = 2 ∨ t = 5 ∨ t = 6) : g4 (no t) := by
  show nI t ≠ nI 4
  obtain rfl | rfl | rfl | rfl | rfl := h <;> decide
theorem tWhy_4 (M : Me) (x y : Int32) : tWhy M x y = 0 ∨ tWhy M x y = 1 ∨ tWhy M x y = 2 ∨ tWhy M x y = 5 ∨ tWhy M x y = 6 := by
  unfold tWhy
  cases hT M <;> cases (aSet M x && aCh M y) <;> simp
theorem tWhyOf_4 (M : Me) (x y z : Int32) : tWhyOf M x y z = 0 ∨ tWhyOf M x y z = 1 ∨ tWhyOf M x y z = 2 ∨ tWhyOf M x y z = 5 ∨ tWhyOf M x y z = 6 := by
  unfold tWhyOf
  cases aSt M z <;> cases (aSet M x && aCh M y && bt x (tN z)) <;> simp
/-- one call of both, side by side -/
def Call2 (E : EV) (mC mM : MC) (as : List AV) : Prop := ∀ n M, n + 1 < 2000 → WI M n → CallK E 41 mC (vP 0 0 :: as) M (fun r M1 => ∃ v, r = some (vI v) ∧ CallK E 41 mM (vP 60 0 :: as) M1 (fun r2 M2 => r2 = some (vI v) ∧ WI M2 (n + 1)))
theorem WI_0 {M : Me} {n : Nat} (h : WI M n) (hn : n + 1 < 2000) : WI (sI M 60 0 0 (nI 0)) (n + 1) := by
  obtain ⟨⟨w1, w2⟩, ⟨w3, w4, w5⟩, w6, w7, w8⟩ := h
  exact ⟨⟨w1, w2⟩, ⟨w3, w4, w5⟩, w6, KNm_up w7 hn, w8⟩
theorem RRe_fc {M M1 : Me} (h : RRe M) (f : FC M M1) : RRe M1 := RRe_o h (by
  funext r k
  exact f.1 70 r k rfl)
section K1
variable (E : EV)
theorem k_fault : Call2 E m_CS_fault m_Mo_fault [] := by
  intro n M hn h
  refine CallK.mk _ (by omega) (c_fault E 0 M) ?_
  rintro r M1 ⟨rfl, rfl⟩
  refine ⟨_, rfl, CallK.mk _ (by omega) (r_fault E 0 M1) ?_⟩
  rintro r M2 ⟨rfl, rfl⟩
  exact ⟨by rw [h.2.2.1.2.1], WI_0 h hn⟩
theorem k_where : Call2 E m_CS_where m_Mo_where [] := by
  intro n M hn h
  refine CallK.mk _ (by omega) (c_where E 0 M) ?_
  rintro r M1 ⟨rfl, rfl⟩
  refine ⟨_, rfl, CallK.mk _ (by omega) (r_where E 0 M1) ?_⟩
  rintro r M2 ⟨rfl, rfl⟩
  exact ⟨by rw [h.2.2.1.2.2], WI_0 h hn⟩
theorem k_trouble : Call2 E m_CS_trouble m_Mo_trouble [] := by
  intro n M hn h
  refine CallK.mk _ (by omega) (c_trouble E 0 M) ?_
  rintro r M1 ⟨rfl, rfl⟩
  refine ⟨_, rfl, CallK.mk _ (by omega) (r_trouble E 0 M1) ?_⟩
  rintro r M2 ⟨rfl, rfl⟩
  exact ⟨by rw [h.2.2.1.1], WI_0 h hn⟩
theorem k_bytes : Call2 E m_CS_bytes m_Mo_bytes [] := by
  intro n M hn h
  obtain ⟨c, c1, c2, c3, -⟩ := id h.1.2
  refine CallK.mk _ (by omega) (c_bytes E 0 M) ?_
  rintro r M1 ⟨rfl, rfl⟩
  refine ⟨_, rfl, CallK.mk _ (by omega) (r_bytes E 0 M1) ?_⟩
  rintro r M2 ⟨rfl, rfl⟩
  exact ⟨by rw [c2, c3], WI_0 h hn⟩
theorem g4_far (M : Me) (x y : Int32) : g4 (qFar M x y) := by
  unfold qFar
  cases aSt M x && aSt M y
  · exact g4_no (by decide)
  · exact g4_ye _
theorem k_far (x y : Int32) : Call2 E m_CS_far m_Mo_far [vI x, vI y] := by
  intro n M hn h
  have hC := WI_CI h
  refine CallK.mk _ (by omega) (c_far E 0 M hC x y) ?_
  rintro r M1 ⟨rfl, rfl⟩
  refine ⟨_, rfl, CallK.mk _ (by omega) (r_far E 0 _ (show RX (sI M 0 0 11 (qFar M x y).2) from hC.1) x y) ?_⟩
  rintro r M2 ⟨rfl, rfl⟩
  have e : qFar (sI M 0 0 11 (qFar M x y).2) x y = qFar M x y := rfl
  rw [e]
  exact ⟨rfl, WI_q0 h hn (g4_far M x y)⟩
theorem g4_about (M : Me) (x : Int32) : g4 (qAbout M x) := by
  unfold qAbout
  repeat' (first | exact g4_ye _ | exact g4_no (by decide) | split)
theorem k_about (x : Int32) : Call2 E m_CS_about m_Mo_about [vI x] := by
  intro n M hn h
  have hC := WI_CI h
  refine CallK.mk _ (by omega) (c_about E 0 M hC x) ?_
  rintro r M1 ⟨rfl, rfl⟩
  refine ⟨_, rfl, CallK.mk _ (by omega) (r_about E 0 _ (show RX (sI M 0 0 11 (qAbout M x).2) from hC.1) x) ?_⟩
  rintro r M2 ⟨rfl, rfl⟩
  have e : qAbout (sI M 0 0 11 (qAbout M x).2) x = qAbout M x := rfl
  rw [e]
  exact ⟨rfl, WI_q0 h hn (g4_about M x)⟩
theorem g4_station (M : Me) (x y : Int32) : g4 (qStation M x y) := by
  unfold qStation
  repeat' (first | exact g4_ye _ | exact g4_no (by decide) | split)
theorem k_station (x y : Int32) : Call2 E m_CS_station m_Mo_station [vI x, vI y] := by
  intro n M hn h
  have hC := WI_CI h
  refine CallK.mk _ (by omega) (c_station E 0 M hC x y) ?_
  rintro r M1 ⟨rfl, rfl⟩
  refine ⟨_, rfl, CallK.mk _ (by omega) (r_station E 0 _ (show RX (sI M 0 0 11 (qStation M x y).2) from hC.1) x y) ?_⟩
  rintro r M2 ⟨rfl, rfl⟩
  have e : qStation (sI M 0 0 11 (qStation M x y).2) x y = qStation M x y := rfl
  rw [e]
  exact ⟨rfl, WI_q0 h hn (g4_station M x y)⟩
theorem g4_border (M : Me) (x y : Int32) : g4 (qBorder M x y) := by
  unfold qBorder
  repeat' (first | exact g4_ye _ | exact g4_no (by decide) | split)
theorem k_border (x y : Int32) : Call2 E m_CS_border m_Mo_border [vI x, vI y] := by
  intro n M hn h
  have hC := WI_CI h
  refine CallK.mk _ (by omega) (c_border E 0 M hC x y) ?_
  rintro r M1 ⟨rfl, rfl⟩
  refine ⟨_, rfl, CallK.mk _ (by omega) (r_border E 0 _ (show RX (sI M 0 0 11 (qBorder M x y).2) from hC.1) x y) ?_⟩
  rintro r M2 ⟨rfl, rfl⟩
  have e : qBorder (sI M 0 0 11 (qBorder M x y).2) x y = qBorder M x y := rfl
  rw [e]
  exact ⟨rfl, WI_q0 h hn (g4_border M x y)⟩
theorem g4_near (M : Me) (x y : Int32) : g4 (qNear M x y) := by
  unfold qNear
  repeat' (first | exact g4_ye _ | exact g4_no (by decide) | split)
theorem k_near (x y : Int32) : Call2 E m_CS_near m_Mo_near [vI x, vI y] := by
  intro n M hn h
  have hC := WI_CI h
  refine CallK.mk _ (by omega) (c_near E 0 M hC x y) ?_
  rintro r M1 ⟨rfl, rfl⟩
  refine ⟨_, rfl, CallK.mk _ (by omega) (r_near E 0 _ (show RX (sI M 0 0 11 (qNear M x y).2) from hC.1) x y) ?_⟩
  rintro r M2 ⟨rfl, rfl⟩
  have e : qNear (sI M 0 0 11 (qNear M x y).2) x y = qNear M x y := rfl
  rw [e]
  exact ⟨rfl, WI_q0 h hn (g4_near M x y)⟩
theorem g4_on (M : Me) (x : Int32) : g4 (qOn M x) := by
  unfold qOn
  repeat' (first | exact g4_ye _ | exact g4_no (by decide) | split)
theorem k_on (x : Int32) : Call2 E m_CS_on m_Mo_on [vI x] := by
  intro n M hn h
  have hC := WI_CI h
  refine CallK.mk _ (by omega) (c_on E 0 M hC x) ?_
  rintro r M1 ⟨rfl, rfl⟩
  refine ⟨_, rfl, CallK.mk _ (by omega) (r_on E 0 _ (show RX (sI M 0 0 11 (qOn M x).2) from hC.1) x) ?_⟩
  rintro r M2 ⟨rfl, rfl⟩
  have e : qOn (sI M 0 0 11 (qOn M x).2) x = qOn M x := rfl
  rw [e]
  exact ⟨rfl, WI_q0 h hn (g4_on M x)⟩
theorem g4_free (M : Me) (x : Int32) : g4 (qFree M x) := by
  unfold qFree
  repeat' (first | exact g4_ye _ | exact g4_no (by decide) | split)
theorem k_free (x : Int32) : Call2 E m_CS_free m_Mo_free [vI x] := by
  intro n M hn h
  have hC := WI_CI h
  refine CallK.mk _ (by omega) (c_free E 0 M hC x) ?_
  rintro r M1 ⟨rfl, rfl⟩
  refine ⟨_, rfl, CallK.mk _ (by omega) (r_free E 0 _ (show RX (sI M 0 0 11 (qFree M x).2) from hC.1) x) ?_⟩
  rintro r M2 ⟨rfl, rfl⟩
  have e : qFree (sI M 0 0 11 (qFree M x).2) x = qFree M x := rfl
  rw [e]
  exact ⟨rfl, WI_q0 h hn (g4_free M x)⟩
theorem g4_heard (M : Me) (x y z : Int32) : g4 (qHeard M x y z) := by
  unfold qHeard
  repeat' (first | exact g4_ye _ | exact g4_no (by decide) | split)
theorem k_heard (x y z : Int32) : Call2 E m_CS_heard m_Mo_heard [vI x, vI y, vI z] := by
  intro n M hn h
  have hC := WI_CI h
  refine CallK.mk _ (by omega) (c_heard E 0 M hC x y z) ?_
  rintro r M1 ⟨rfl, rfl⟩
  refine ⟨_, rfl, CallK.mk _ (by omega) (r_heard E 0 _ (show RX (sI M 0 0 11 (qHeard M x y z).2) from hC.1) x y z) ?_⟩
  rintro r M2 ⟨rfl, rfl⟩
  have e : qHeard (sI M 0 0 11 (qHeard M x y z).2) x y z = qHeard M x y z := rfl
  rw [e]
  exact ⟨rfl, WI_q0 h hn (g4_heard M x y z)⟩
theorem g4_islands (M : Me) (x : Int32) : g4 (qIslands M x) := by
  unfold qIslands
  repeat' (first | exact g4_ye _ | exact g4_no (by decide) | split)
theorem k_islands (x : Int32) : Call2 E m_CS_islands m_Mo_islands [vI x] := by
  intro n M hn h
  have hC := WI_CI h
  refine CallK.mk _ (by omega) (c_islands E 0 M hC x) ?_
  rintro r M1 ⟨rfl, rfl⟩
  refine ⟨_, rfl, CallK.mk _ (by omega) (r_islands E 0 _ (show RX (sI M 0 0 11 (qIslands M x).2) from hC.1) x) ?_⟩
  rintro r M2 ⟨rfl, rfl⟩
  have e : qIslands (sI M 0 0 11 (qIslands M x).2) x = qIslands M x := rfl
  rw [e]
  exact ⟨rfl, WI_q0 h hn (g4_islands M x)⟩
theorem g4_lower (M : Me) (x : Int32) : g4 (qLower M x) := by
  unfold qLower
  repeat' (first | exact g4_ye _ | exact g4_no (by decide) | split)
theorem k_lower (x : Int32) : Call2 E m_CS_lower m_Mo_lower [vI x] := by
  intro n M hn h
  have hC := WI_CI h
  refine CallK.mk _ (by omega) (c_lower E 0 M hC x) ?_
  rintro r M1 ⟨rfl, rfl⟩
  refine ⟨_, rfl, CallK.mk _ (by omega) (r_lower E 0 _ (show RX (sI M 0 0 11 (qLower M x).2) from hC.1) x) ?_⟩
  rintro r M2 ⟨rfl, rfl⟩
  have e : qLower (sI M 0 0 11 (qLower M x).2) x = qLower M x := rfl
  rw [e]
  exact ⟨rfl, WI_q0 h hn (g4_lower M x)⟩
theorem g4_fits (M : Me) (x y : Int32) : g4 (qFits M x y) := by
  unfold qFits
  repeat' (first | exact g4_ye _ | exact g4_no (by decide) | exact g4_no (tWhy_4 _ _ _) | split)
theorem k_fits (x y : Int32) : Call2 E m_CS_fits m_Mo_fits [vI x, vI y] := by
  intro n M hn h
  have hC := WI_CI h
  refine CallK.mk _ (by omega) (c_fits E 0 M hC n h.2.2.2.1 hn x y) ?_
  rintro r M1 ⟨rfl, f1, e1, k1⟩
  have hC1 := CI_fc f1 hC
  refine ⟨_, rfl, CallK.mk _ (by omega) (r_fits E 0 M1 hC1.1 (RRe_fc h.2.2.2.2 f1) x y) ?_⟩
  rintro r M2 ⟨rfl, f2, r2, -, e2, e3⟩
  have e : qFits M1 x y = qFits M x y := by
    rw [FC_eq f1]
    rfl
  rw [e] at e2 ⊢
  exact ⟨rfl, WI_q h f1 e1 k1 f2 r2 e2 e3 (g4_fits M x y)⟩
theorem g4_rowOf (M : Me) (x y z : Int32) : g4 (qRowOf M x y z) := by
  unfold qRowOf
  repeat' (first | exact g4_ye _ | exact g4_no (by decide) | exact g4_no (tWhyOf_4 _ _ _ _) | split)
theorem k_rowOf (x y z : Int32) : Call2 E m_CS_rowOf m_Mo_rowOf [vI x, vI y, vI z] := by
  intro n M hn h
  have hC := WI_CI h
  refine CallK.mk _ (by omega) (c_rowOf E 0 M hC n h.2.2.2.1 hn x y z) ?_
  rintro r M1 ⟨rfl, f1, e1, k1⟩
  have hC1 := CI_fc f1 hC
  refine ⟨_, rfl, CallK.mk _ (by omega) (r_rowOf E 0 M1 hC1.1 (RRe_fc h.2.2.2.2 f1) x y z) ?_⟩
  rintro r M2 ⟨rfl, f2, r2, -, e2, e3⟩
  have e : qRowOf M1 x y z = qRowOf M x y z := by
    rw [FC_eq f1]
    rfl
  rw [e] at e2 ⊢
  exact ⟨rfl, WI_q h f1 e1 k1 f2 r2 e2 e3 (g4_rowOf M x y z)⟩
theorem g4_rows (M : Me) (x y : Int32) : g4 (qRows M x y) := by
  unfold qRows
  repeat' (first | exact g4_ye _ | exact g4_no (by decide) | exact g4_no (tWhy_4 _ _ _) | split)
theorem k_rows (x y : Int32) : Call2 E m_CS_rows m_Mo_rows [vI x, vI y] := by
  intro n M hn h
  have hC := WI_CI h
  refine CallK.mk _ (by omega) (c_rows E 0 M hC n h.2.2.2.1 hn x y) ?_
  rintro r M1 ⟨rfl, f1, e1, k1⟩
  have hC1 := CI_fc f1 hC
  refine ⟨_, rfl, CallK.mk _ (by omega) (r_rows E 0 M1 hC1.1 (RRe_fc h.2.2.2.2 f1) x y) ?_⟩
  rintro r M2 ⟨rfl, f2, r2, -, e2, e3⟩
  have e : qRows M1 x y = qRows M x y := by
    rw [FC_eq f1]
    rfl
  rw [e] at e2 ⊢
  exact ⟨rfl, WI_q h f1 e1 k1 f2 r2 e2 e3 (g4_rows M x y)⟩
theorem g4_fewest (M : Me) (x : Int32) : g4 (qFewest M x) := by
  unfold qFewest
  repeat' (first | exact g4_ye _ | exact g4_no (by decide) | exact g4_no (tWhy_4 _ _ _) | split)
theorem k_fewest (x : Int32) : Call2 E m_CS_fewest m_Mo_fewest [vI x] := by
  intro n M hn h
  have hC := WI_CI h
  refine CallK.mk _ (by omega) (c_fewest E 0 M hC n h.2.2.2.1 hn x) ?_
  rintro r M1 ⟨rfl, f1, e1, k1⟩
  have hC1 := CI_fc f1 hC
  refine ⟨_, rfl, CallK.mk _ (by omega) (r_fewest E 0 M1 hC1.1 (RRe_fc h.2.2.2.2 f1) x) ?_⟩
  rintro r M2 ⟨rfl, f2, r2, -, e2, e3⟩
  have e : qFewest M1 x = qFewest M x := by
    rw [FC_eq f1]
    rfl
  rw [e] at e2 ⊢
  exact ⟨rfl, WI_q h f1 e1 k1 f2 r2 e2 e3 (g4_fewest M x)⟩
theorem g4_proof (M : Me) (x y : Int32) : g4 (qProof M x y) := by
  unfold qProof
  repeat' (first | exact g4_ye _ | exact g4_no (by decide) | exact g4_no (tWhy_4 _ _ _) | split)
theorem k_proof (x y : Int32) : Call2 E m_CS_proof m_Mo_proof [vI x, vI y] := by
  intro n M hn h
  have hC := WI_CI h
  refine CallK.mk _ (by omega) (c_proof E 0 M hC n h.2.2.2.1 hn x y) ?_
  rintro r M1 ⟨rfl, f1, e1, k1⟩
  have hC1 := CI_fc f1 hC
  refine ⟨_, rfl, CallK.mk _ (by omega) (r_proof E 0 M1 hC1.1 (RRe_fc h.2.2.2.2 f1) x y) ?_⟩
  rintro r M2 ⟨rfl, f2, r2, -, e2, e3⟩
  have e : qProof M1 x y = qProof M x y := by
    rw [FC_eq f1]
    rfl
  rw [e] at e2 ⊢
  exact ⟨rfl, WI_q h f1 e1 k1 f2 r2 e2 e3 (g4_proof M x y)⟩
theorem g4_could (M : Me) (x y z : Int32) : g4 (qCould M x y z) := by
  unfold qCould
  repeat' (first | exact g4_ye _ | exact g4_no (by decide) | exact g4_no (tWhyOf_4 _ _ _ _) | split)
theorem k_could (x y z : Int32) : Call2 E m_CS_could m_Mo_could [vI x, vI y, vI z] := by
  intro n M hn h
  have hC := WI_CI h
  refine CallK.mk _ (by omega) (c_could E 0 M hC n h.2.2.2.1 hn x y z) ?_
  rintro r M1 ⟨rfl, f1, e1, k1⟩
  have hC1 := CI_fc f1 hC
  refine ⟨_, rfl, CallK.mk _ (by omega) (r_could E 0 M1 hC1.1 (RRe_fc h.2.2.2.2 f1) x y z) ?_⟩
  rintro r M2 ⟨rfl, f2, r2, -, e2, e3⟩
  have e : qCould M1 x y z = qCould M x y z := by
    rw [FC_eq f1]
    rfl
  rw [e] at e2 ⊢
  exact ⟨rfl, WI_q h f1 e1 k1 f2 r2 e2 e3 (g4_could M x y z)⟩
theorem g4_cheapest (M : Me) (x y : Int32) : g4 (qCheap M x y) := by
  unfold qCheap
  repeat' (first | exact g4_ye _ | exact g4_no (by decide) | split)
theorem k_cheapest (x y : Int32) : Call2 E m_CS_cheapest m_Mo_cheapest [vI x, vI y] := by
  intro n M hn h
  have hC := WI_CI h
  refine CallK.mk _ (by omega) (c_cheapest E 0 M hC n h.2.2.2.1 hn x y) ?_
  rintro r M1 ⟨rfl, f1, e1, k1⟩
  have hC1 := CI_fc f1 hC
  refine ⟨_, rfl, CallK.mk _ (by omega) (r_cheapest E 0 M1 hC1.1 hC1.2.1 (RRe_fc h.2.2.2.2 f1) x y) ?_⟩
  rintro r M2 ⟨rfl, f2, r2, -, e2, e3⟩
  have e : qCheap M1 x y = qCheap M x y := by
    rw [FC_eq f1]
    rfl
  rw [e] at e2 ⊢
  exact ⟨rfl, WI_q h f1 e1 k1 f2 r2 e2 e3 (g4_cheapest M x y)⟩
theorem g4_due (M : Me) (x y : Int32) : g4 (qDue M x y) := by
  unfold qDue
  repeat' (first | exact g4_ye _ | exact g4_no (by decide) | split)
theorem k_due (x y : Int32) : Call2 E m_CS_due m_Mo_due [vI x, vI y] := by
  intro n M hn h
  have hC := WI_CI h
  refine CallK.mk _ (by omega) (c_due E 0 M hC n h.2.2.2.1 hn x y) ?_
  rintro r M1 ⟨rfl, f1, e1, k1⟩
  have hC1 := CI_fc f1 hC
  refine ⟨_, rfl, CallK.mk _ (by omega) (r_due E 0 M1 hC1.1 hC1.2.1 (RRe_fc h.2.2.2.2 f1) x y) ?_⟩
  rintro r M2 ⟨rfl, f2, r2, -, e2, e3⟩
  have e : qDue M1 x y = qDue M x y := by
    rw [FC_eq f1]
    rfl
  rw [e] at e2 ⊢
  exact ⟨rfl, WI_q h f1 e1 k1 f2 r2 e2 e3 (g4_due M x y)⟩
theorem g4_clock (M : Me) (x y z w : Int32) : g4 (qClock M x y z w) := by
  unfold qClock
  repeat' (first | exact g4_ye _ | exact g4_no (by decide) | split)
theorem k_clock (x y z w : Int32) : Call2 E m_CS_clock m_Mo_clock [vI x, vI y, vI z, vI w] := by
  intro n M hn h
  have hC := WI_CI h
  refine CallK.mk _ (by omega) (c_clock E 0 M hC (WI_RVl h) n h.2.2.2.1 hn x y z w) ?_
  rintro r M1 ⟨rfl, f1, e1, k1⟩
  have hC1 := CI_fc f1 hC
  refine ⟨_, rfl, CallK.mk _ (by omega) (r_clock E 0 M1 hC1.1 (RRe_fc h.2.2.2.2 f1) x y z w) ?_⟩
  rintro r M2 ⟨rfl, f2, r2, -, e2, e3⟩
  have e : qClock M1 x y z w = qClock M x y z w := by
    rw [FC_eq f1]
    rfl
  rw [e] at e2 ⊢
  exact ⟨rfl, WI_q h f1 e1 k1 f2 r2 e2 e3 (g4_clock M x y z w)⟩
theorem g4_pay (M : Me) (x y z w : Int32) : g4 (qPay M x y z w) := by
  unfold qPay
  repeat' (first | exact g4_ye _ | exact g4_no (by decide) | split)
theorem k_pay (x y z w : Int32) : Call2 E m_CS_pay m_Mo_pay [vI x, vI y, vI z, vI w] := by
  intro n M hn h
  have hC := WI_CI h
  refine CallK.mk _ (by omega) (c_pay E 0 M hC (WI_RVl h) n h.2.2.2.1 hn x y z w) ?_
  rintro r M1 ⟨rfl, f1, e1, k1⟩
  have hC1 := CI_fc f1 hC
  refine ⟨_, rfl, CallK.mk _ (by omega) (r_pay E 0 M1 hC1.1 (RRe_fc h.2.2.2.2 f1) x y z w) ?_⟩
  rintro r M2 ⟨rfl, f2, r2, -, e2, e3⟩
  have e : qPay M1 x y z w = qPay M x y z w := by
    rw [FC_eq f1]
    rfl
  rw [e] at e2 ⊢
  exact ⟨rfl, WI_q h f1 e1 k1 f2 r2 e2 e3 (g4_pay M x y z w)⟩
theorem g4_squeeze (M : Me) (x : Int32) : g4 (qSqueeze M x) := by
  unfold qSqueeze
  repeat' (first | exact g4_ye _ | exact g4_no (by decide) | split)
theorem k_squeeze (x : Int32) : Call2 E m_CS_squeeze m_Mo_squeeze [vI x] := by
  intro n M hn h
  have hC := WI_CI h
  refine CallK.mk _ (by omega) (c_squeeze E 0 M hC n h.2.2.2.1 hn x) ?_
  rintro r M1 ⟨rfl, f1, e1, k1⟩
  have hC1 := CI_fc f1 hC
  refine ⟨_, rfl, CallK.mk _ (by omega) (r_squeeze E 0 M1 hC1.1 (RRe_fc h.2.2.2.2 f1) x) ?_⟩
  rintro r M2 ⟨rfl, f2, r2, -, e2, e3⟩
  have e : qSqueeze M1 x = qSqueeze M x := by
    rw [FC_eq f1]
    rfl
  rw [e] at e2 ⊢
  exact ⟨rfl, WI_q h f1 e1 k1 f2 r2 e2 e3 (g4_squeeze M x)⟩
theorem g4_squeezeOf (M : Me) (x y : Int32) : g4 (qSqueezeOf M x y) := by
  unfold qSqueezeOf
  repeat' (first | exact g4_ye _ | exact g4_no (by decide) | split)
theorem k_squeezeOf (x y : Int32) : Call2 E m_CS_squeezeOf m_Mo_squeezeOf [vI x, vI y] := by
  intro n M hn h
  have hC := WI_CI h
  refine CallK.mk _ (by omega) (c_squeezeOf E 0 M hC n h.2.2.2.1 hn x y) ?_
  rintro r M1 ⟨rfl, f1, e1, k1⟩
  have hC1 := CI_fc f1 hC
  refine ⟨_, rfl, CallK.mk _ (by omega) (r_squeezeOf E 0 M1 hC1.1 (RRe_fc h.2.2.2.2 f1) x y) ?_⟩
  rintro r M2 ⟨rfl, f2, r2, -, e2, e3⟩
  have e : qSqueezeOf M1 x y = qSqueezeOf M x y := by
    rw [FC_eq f1]
    rfl
  rw [e] at e2 ⊢
  exact ⟨rfl, WI_q h f1 e1 k1 f2 r2 e2 e3 (g4_squeezeOf M x y)⟩
theorem g4_order (M : Me) (x y : Int32) : g4 (qOrder M x y) := by
  unfold qOrder
  split
  · exact g4_no (by decide)
  · split
    · exact g4_no (by decide)
    · cases (aSq M (tN x)).isSome
      · exact g4_no (by decide)
      · show g4 (match ordF (aS M) (aDist M) (sqB M (tN x)) (sN M) (sqL M (tN x)) (oN M) with
          | none => ye (-(nI 2))
          | some l => match l[tN y]? with
            | none => ye (-(nI 2))
            | some s => ye (nI s))
        split
        · exact g4_ye _
        · split <;> exact g4_ye _
theorem k_order (x y : Int32) : Call2 E m_CS_order m_Mo_order [vI x, vI y] := by
  intro n M hn h
  have hC := WI_CI h
  refine CallK.mk _ (by omega) (c_order E 0 M hC n h.2.2.2.1 hn x y) ?_
  rintro r M1 ⟨rfl, f1, e1, k1⟩
  have hC1 := CI_fc f1 hC
  refine ⟨_, rfl, CallK.mk _ (by omega) (r_order E 0 M1 hC1.1 (RRe_fc h.2.2.2.2 f1) x y) ?_⟩
  rintro r M2 ⟨rfl, f2, r2, -, e2, e3⟩
  have e : qOrder M1 x y = qOrder M x y := by
    rw [FC_eq f1]
    rfl
  rw [e] at e2 ⊢
  exact ⟨rfl, WI_q h f1 e1 k1 f2 r2 e2 e3 (g4_order M x y)⟩
theorem g4_steps (M : Me) (x y : Int32) : g4 (qSteps M x y) := by
  unfold qSteps
  unfold stV
  repeat' (first | exact g4_ye _ | exact g4_no (by decide) | split)
theorem k_steps (x y : Int32) : Call2 E m_CS_steps m_Mo_steps [vI x, vI y] := by
  intro n M hn h
  have hC := WI_CI h
  refine CallK.mk _ (by omega) (c_steps E 0 M hC n h.2.2.2.1 hn x y) ?_
  rintro r M1 ⟨rfl, f1, e1, k1⟩
  have hC1 := CI_fc f1 hC
  refine ⟨_, rfl, CallK.mk _ (by omega) (r_steps E 0 M1 hC1.1 (RRe_fc h.2.2.2.2 f1) x y) ?_⟩
  rintro r M2 ⟨rfl, f2, r2, -, e2, e3⟩
  have e : qSteps M1 x y = qSteps M x y := by
    rw [FC_eq f1]
    rfl
  rw [e] at e2 ⊢
  exact ⟨rfl, WI_q h f1 e1 k1 f2 r2 e2 e3 (g4_steps M x y)⟩
end K1
