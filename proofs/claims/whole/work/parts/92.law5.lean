/-! the law's loop -/
/-- the law's own end, with 1 on the stack, nothing written that was there before, its room as the claim has it -/
theorem lw_ret {p : Program} {l : Launch} {e : Env} {s : State} {m : MethodId} {below : List Frame} {meth : Method} {c : Code} {b : Nat} (hx : p.tables.exec = Jvm.exec) (hb : c.code = code) (hr : meth.sig.returnType = ret) (hlocks : meth.locks = false) {pc : Nat} {H : Heap} {ls : Array Slot} (hdg : decode code pc = .ok (.ireturn, 1)) : W p l e room_1 s m #[Value.ref b] below meth c H [] 601024 7293034 (lw_Z below #[Value.ref b] s) (F0 m pc ls [.int 1]) := by
  intro T hT X
  obtain ⟨fs, hret, hrun, hended, hW, hframe⟩ := X.leave (v := some (.int 1)) (hlocks := hlocks) (fun h => by rw [hr] at h; cases h)
  have hmeth' : T.vm.method? m = some meth := X.method'
  refine ⟨T.setFrames fs, ?_, .returned (some (.int 1)), hrun, hended, rfl, ⟨_, rfl⟩, hW, hframe⟩
  jvm_step X.here [X.here.top, hx, hb, hdg, hmeth', hr, ret, narrow_b1]
  (try refine ⟨rfl, ?_⟩); (try refine ⟨rfl, ?_⟩)
  first | (intro acts; rw [hret _ acts rfl rfl rfl]) | rw [hret _ _ rfl rfl rfl]
  exact Steps.refl _
theorem lt6 : ∀ L, L < 6 → nI L - nI 6 < nI 0 := by decide
section LL
variable {E : EV} {p : Program} {e : Env} {s : State} {m : MethodId} {below : List Frame} {meth : Method} {c : Code} {b o L nc ns i : Nat} {xs : Nat → Int32} {M : Me} {fo : Nat → Int64}
theorem l_out (X : LX E p s m meth c b L xs o) (hnc : nc ≤ 601024) (hns : ns ≤ 7293034) : Lp E p e s m below meth c b o nc ns i 1670 [] M fo := by
  obtain ⟨x1, x2, x3, x4, x5, x6, x7, x8, x9, x10⟩ := X.1
  intro H locs js h1 h2 h3 hl h5
  refine lv_iconst x1 x2 (v := 1) (isI_d (show isI 1670 (.iconst 1) 1 = true by decide +kernel)) (by decide) ?_
  refine va_forget h3.2.2 ?_
  refine W.widen (k := 601024) (n := 7293034) hnc hns ?_
  exact lw_ret x1 x2 x3 x9 (isI_d (show isI 1671 .ireturn 1 = true by decide +kernel))
theorem l_head (X : LX E p s m meth c b L xs o) (hL : L ≤ 3072) (hi : i < 10000) (kin : i + 6 ≤ L → Lp E p e s m below meth c b o nc ns i 33 [] M fo) (kout : Lp E p e s m below meth c b o nc ns i 1670 [] M fo) : Lp E p e s m below meth c b o nc ns i 23 [] M fo := by
  obtain ⟨x1, x2, x3, x4, x5, x6, x7, x8, x9, x10⟩ := X.1
  intro H locs js h1 h2 h3 hl h5
  refine lv_iload x1 x2 (isI_d (show isI 23 (.iload 4) 2 = true by decide +kernel)) (lv_at hl 4 rfl) ?_
  refine lv_aload_n x1 x2 (isI_d (show isI 25 (.aload_n 0) 1 = true by decide +kernel)) rfl (lv_at hl 0 rfl) ?_
  refine va_slen x1 x2 x7 x8 (show ¬ newA s b from fun z => Nat.not_lt.mpr z x8) h3 (isI_d (show isI 26 .arraylength 1 = true by decide +kernel)) ?_
  refine lv_bipush x1 x2 (v := nI 6) (isI_d (show isI 27 (.bipush 6) 2 = true by decide +kernel)) (by decide) ?_
  refine lv_isub x1 x2 (isI_d (show isI 29 .isub 1 = true by decide +kernel)) ?_
  refine lv_icmp_gt x1 x2 (tgt := 1670) (isI_d (show isI 30 (.if_icmp .gt 1640) 3 = true by decide +kernel)) rfl (fun _ => kout H locs js h1 h2 h3 hl h5) (fun z => ?_)
  have hle : nI i ≤ nI L - nI 6 := Int32.not_lt.mp z
  rcases Nat.lt_or_ge L 6 with h6 | h6
  · exact absurd (Int32.le_trans (nI_le (Nat.zero_le i) (by omega)) hle) (Int32.not_le.mpr (lt6 L h6))
  · rw [pk_sub h6] at hle
    have := (nI_leI (by omega) (by omega)).mp hle
    exact kin (by omega) H locs js h1 h2 h3 hl h5
theorem l_next (X : LX E p s m meth c b L xs o) (k : Lp E p e s m below meth c b o nc ns (i + 6) 23 [] M fo) : Lp E p e s m below meth c b o nc ns i 1664 [] M fo := by
  obtain ⟨x1, x2, x3, x4, x5, x6, x7, x8, x9, x10⟩ := X.1
  intro H locs js h1 h2 h3 hl h5
  refine lv_iinc x1 x2 (k := 4) (v := nI (i + 6)) (isI_d (show isI 1664 (.iinc 4 6) 3 = true by decide +kernel)) hl rfl (show nI i + Int32.ofInt 6 = nI (i + 6) from nI_s8 i 6) (by omega) rfl (fun js' hl' => ?_)
  refine lv_goto x1 x2 (tgt := 23) (isI_d (show isI 1667 (.goto (-1644)) 3 = true by decide +kernel)) rfl ?_
  have hl2 : lv_has js' 7 [(4, .int (nI (i + 6))), (0, .ref b), (1, .ref (eA E 0 0)), (2, .ref (eA E 60 0)), (3, .ref o)] := hl'
  refine k H locs js' h1 h2 h3 ⟨hl2.1, hl2.2.1, fun q hq => hl2.2.2 q ?_⟩ h5
  simp only [List.mem_cons, List.mem_nil_iff, or_false] at hq ⊢
  rcases hq with h | h | h | h | h
  · exact Or.inr (Or.inl h)
  · exact Or.inr (Or.inr (Or.inl h))
  · exact Or.inr (Or.inr (Or.inr (Or.inl h)))
  · exact Or.inr (Or.inr (Or.inr (Or.inr h)))
  · exact Or.inl h
def LetOK (E : EV) (p : Program) (e : Env) (s : State) (m : MethodId) (below : List Frame) (meth : Method) (c : Code) (b o L C0 S0 : Nat) : Prop := ∀ t i M fo, i + 6 ≤ L → t + 1 < 2000 → C0 + t + 1 ≤ 601024 → S0 + 8 * t + 8 ≤ 7293034 → WI M t → (∀ M2 fo2, WI M2 (t + 1) → Lp E p e s m below meth c b o (C0 + t + 1) (S0 + 8 * t + 8) i 1664 [] M2 fo2) → Lp E p e s m below meth c b o (C0 + t) (S0 + 8 * t) i 1570 [] M fo
theorem Lp_widen {k n pc : Nat} {st : List Value} (h1 : nc ≤ k) (h2 : ns ≤ n) (h : Lp E p e s m below meth c b o k n i pc st M fo) : Lp E p e s m below meth c b o nc ns i pc st M fo := fun H locs js a1 a2 a3 a4 a5 => W.widen h1 h2 (h H locs js a1 a2 a3 a4 a5)
theorem l_loop (X : LX E p s m meth c b L xs o) (hL : L ≤ 3072) {C0 S0 : Nat} (hC0 : C0 + 1000 ≤ 601024) (hS0 : S0 + 8000 ≤ 7293034) (hlet : LetOK E p e s m below meth c b o L C0 S0) : ∀ (r t : Nat) (M : Me) (fo : Nat → Int64), 6 * t ≤ L → L < 6 * t + 6 * r → WI M t → Lp E p e s m below meth c b o (C0 + t) (S0 + 8 * t) (6 * t) 23 [] M fo
  | 0, t, M, fo, h1, h2, hW => absurd h2 (by omega)
  | r + 1, t, M, fo, h1, h2, hW => by
    refine l_head X hL (by omega) (fun h6 => ?_) (l_out X (by omega) (by omega))
    have nx : ∀ M2 fo2, WI M2 (t + 1) → Lp E p e s m below meth c b o (C0 + t + 1) (S0 + 8 * t + 8) (6 * t) 1664 [] M2 fo2 := by
      intro M2 fo2 hW2
      refine l_next X ?_
      exact l_loop X hL hC0 hS0 hlet r (t + 1) M2 fo2 (by omega) (by omega) hW2
    refine l_switch X hL h6 (by omega) (by omega) (by omega) hW (fun M2 hW2 => Lp_widen (by omega) (by omega) (nx M2 fo hW2)) ?_
    exact hlet t (6 * t) M fo h6 (by omega) (by omega) (by omega) hW nx
end LL
