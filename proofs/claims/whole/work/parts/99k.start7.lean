/-! the start: the small machine's memory lies in the heap -/
theorem arrV_ext {cI : ClassId} {N : Nat} {f g : Nat → Value} (h : ∀ j, j < N → f j = g j) : arrV cI N f = arrV cI N g := by
  have e : (fun j : Fin N => f j.val) = fun j : Fin N => g j.val := funext fun j => h j.val j.isLt
  unfold arrV
  rw [e]
theorem off_lt : pls.all (fun q => Nat.blt (off q.1 q.2) 118) = true := by decide +kernel
theorem off_inj : pls.all (fun a => pls.all (fun b => !Nat.beq (off a.1 a.2) (off b.1 b.2) || (Nat.beq a.1 b.1 && Nat.beq a.2 b.2))) = true := by decide +kernel
section SM
variable (l : Launch) (D : va_G) (h0 : Nat) (sa : Nat → Nat) (cI cB cZ cJ cQ : ClassId) (sv : Nat → Nat)
theorem eA_mk {i r : Nat} (hi : i < 78) : eA (mkE l D h0 sa cI cB cZ cJ cQ sv) i r = h0 + off i r := by
  show cond (Nat.blt i 78) (h0 + off i r) (sa (i - 300)) = _
  rw [Nat.blt_eq.mpr hi]
  rfl
theorem GE_mk : GE (mkE l D h0 sa cI cB cZ cJ cQ sv) := by
  intro i r i' r' h1 h2 h3 h4 e
  rw [eA_mk l D h0 sa cI cB cZ cJ cQ sv h1, eA_mk l D h0 sa cI cB cZ cJ cQ sv h3] at e
  have k1 : (!Nat.beq (off i r) (off i' r') || (Nat.beq i i' && Nat.beq r r')) = true := List.all_eq_true.mp (List.all_eq_true.mp off_inj (i, r) (mem_pls.mpr ⟨h1, h2⟩)) (i', r') (mem_pls.mpr ⟨h3, h4⟩)
  have k2 : Nat.beq (off i r) (off i' r') = true := Nat.beq_eq.mpr (by omega)
  rw [k2] at k1
  have k3 : (Nat.beq i i' && Nat.beq r r') = true := k1
  rw [Bool.and_eq_true] at k3
  exact ⟨Nat.beq_eq.mp k3.1, Nat.beq_eq.mp k3.2⟩
theorem AA_mk {q : Nat} (h : AA (mkE l D h0 sa cI cB cZ cJ cQ sv) q) : h0 ≤ q ∧ q < h0 + 118 := by
  obtain ⟨i, r, h1, h2, rfl⟩ := h
  rw [eA_mk l D h0 sa cI cB cZ cJ cQ sv h1]
  have k1 : off i r < 118 := Nat.blt_eq.mp (List.all_eq_true.mp off_lt (i, r) (mem_pls.mpr ⟨h1, h2⟩))
  omega
theorem st_at {z : Nat × Nat} (hz : z ∈ pls) : ∃ j : Nat, (w0 (mkE l D h0 sa cI cB cZ cJ cQ sv) h0)[j]? = some (fE l D h0 sa cI cB cZ cJ cQ sv z) := by
  have hz1 : z ∈ alo := by
    have h := List.all_eq_true.mp alo_pls z hz
    exact List.elem_iff.mp h
  obtain ⟨j, hj⟩ := List.getElem?_of_mem (List.mem_map_of_mem (f := fE l D h0 sa cI cB cZ cJ cQ sv) hz1)
  refine ⟨j, ?_⟩
  unfold w0
  rw [List.nil_append, w0_eq, List.getElem?_append_left (List.getElem?_eq_some_iff.mp hj).1]
  exact hj
theorem st_P {H : Heap} (h : va_P D vwCl (w0 (mkE l D h0 sa cI cB cZ cJ cQ sv) h0) H) : va_P D vwCl (wsE (mkE l D h0 sa cI cB cZ cJ cQ sv) me0) H := by
  intro k q hk
  unfold wsE at hk
  rw [List.getElem?_map] at hk
  cases hq : pls[k]? with
  | none => rw [hq] at hk; cases hk
  | some z =>
    rw [hq] at hk
    cases hk
    have hz := List.mem_of_getElem? hq
    obtain ⟨j, hj⟩ := st_at l D h0 sa cI cB cZ cJ cQ sv hz
    have h1 := h j _ hj
    obtain ⟨i, r⟩ := z
    obtain ⟨m1, m2⟩ := mem_pls.mp hz
    show va_at D vwCl (eA (mkE l D h0 sa cI cB cZ cJ cQ sv) i r, cellE (mkE l D h0 sa cI cB cZ cJ cQ sv) me0 (i, r)) H
    rw [eA_mk l D h0 sa cI cB cZ cJ cQ sv m1]
    by_cases h6 : (ly i).1 = 6
    · have hc : fE l D h0 sa cI cB cZ cJ cQ sv (i, r) = (h0 + off i r, .inl (cQ, (ly i).2, .inr (.inr (.inr (.inr fun j => some (h0 + off i r + 1 + j)))))) := by
        show (h0 + off i r, cond (Nat.beq (ly i).1 6) _ _) = _
        rw [h6]
        rfl
      rw [hc] at h1
      rw [cell_q h6]
      have h2 : H[h0 + off i r]? = some (arrV cQ (ly i).2 (fun j => va_rf (some (h0 + off i r + 1 + j)))) := h1
      show H[h0 + off i r]? = some (arrV cQ (ly i).2 (fun j => va_rf (some (eA (mkE l D h0 sa cI cB cZ cJ cQ sv) (tgt i 0) (j + r * (ly i).2)))))
      rw [h2]
      refine congrArg some (arrV_ext fun j hj => ?_)
      have k1 : (!Nat.beq (ly i).1 6 || (List.range (ly i).2).all (fun j => Nat.beq (off i r + 1 + j) (off (tgt i 0) (j + r * (ly i).2)) && Nat.blt (tgt i 0) 78)) = true := List.all_eq_true.mp row_off (i, r) hz
      rw [show Nat.beq (ly i).1 6 = true from Nat.beq_eq.mpr h6] at k1
      have k2 : ((List.range (ly i).2).all (fun j => Nat.beq (off i r + 1 + j) (off (tgt i 0) (j + r * (ly i).2)) && Nat.blt (tgt i 0) 78)) = true := k1
      have k3 := List.all_eq_true.mp k2 j (List.mem_range.mpr hj)
      rw [Bool.and_eq_true] at k3
      have k4 : off i r + 1 + j = off (tgt i 0) (j + r * (ly i).2) := Nat.beq_eq.mp k3.1
      rw [eA_mk l D h0 sa cI cB cZ cJ cQ sv (Nat.blt_eq.mp k3.2), ← k4, show h0 + off i r + 1 + j = h0 + (off i r + 1 + j) by omega]
    · have hb : Nat.beq (ly i).1 6 = false := by
        cases hb : Nat.beq (ly i).1 6 with
        | false => rfl
        | true => exact absurd (Nat.beq_eq.mp hb) h6
      have hc : fE l D h0 sa cI cB cZ cJ cQ sv (i, r) = (h0 + off i r, cellE (mkE l D h0 sa cI cB cZ cJ cQ sv) me0 (i, r)) := by
        show (h0 + off i r, cond (Nat.beq (ly i).1 6) _ _) = _
        rw [hb]
        rfl
      rw [hc] at h1
      exact h1
theorem st_O {H : Heap} (h : va_P D vwCl (w0 (mkE l D h0 sa cI cB cZ cJ cQ sv) h0) H) : va_P D vwCl [(h0 + 118, outE (mkE l D h0 sa cI cB cZ cJ cQ sv) fun _ => 0)] H := by
  intro k q hk
  refine h (([] ++ rc_CS (mkE l D h0 sa cI cB cZ cJ cQ sv) (h0 + 0) ++ rc_Mo (mkE l D h0 sa cI cB cZ cJ cQ sv) (h0 + 100)).length + k) q ?_
  unfold w0
  rw [List.getElem?_append_right (Nat.le_add_right _ _), Nat.add_sub_cancel_left]
  exact hk
end SM
theorem fkd_big {c k : Nat} (h : ¬ k < 60) : fkd c k = 0 := by
  have e : ∀ n, n < 60 → Nat.beq k n = false := fun n hn => by
    cases hb : Nat.beq k n with
    | false => rfl
    | true => exact absurd (Nat.beq_eq.mp hb) (by omega)
  have b : ∀ n, n ≤ 60 → Nat.blt k n = false := fun n hn => by
    cases hb : Nat.blt k n with
    | false => rfl
    | true => exact absurd (Nat.blt_eq.mp hb) (by omega)
  unfold fkd
  simp [b, e]
theorem okMe0_all : (List.range 78).all (fun i => (List.range 60).all fun k => !(Nat.beq (ly i).1 1 && Nat.beq (fkd (ly i).2 k) 5) || Nat.blt (cond (Nat.beq i 0 && Nat.beq k 10) 1 0) (rn (tgt i k))) = true := by decide +kernel
theorem okMe0 : okMe me0 := by
  intro i r k h1 h5
  have hi : i < 78 := ly_lt (by rw [h1]; decide)
  have hk : k < 60 := by
    by_cases hk : k < 60
    · exact hk
    · rw [fkd_big hk] at h5
      cases h5
  have k1 : (!(Nat.beq (ly i).1 1 && Nat.beq (fkd (ly i).2 k) 5) || Nat.blt (cond (Nat.beq i 0 && Nat.beq k 10) 1 0) (rn (tgt i k))) = true := List.all_eq_true.mp (List.all_eq_true.mp okMe0_all i (List.mem_range.mpr hi)) k (List.mem_range.mpr hk)
  rw [h1, h5] at k1
  have k2 : Nat.blt (cond (Nat.beq i 0 && Nat.beq k 10) 1 0) (rn (tgt i k)) = true := k1
  exact Nat.blt_eq.mp k2
