/-! the law from its entry -/
section SY
variable {p : Program} {e : Env} {s : State} {m : MethodId} {below : List Frame} {meth : Method} {c : Code} {b L : Nat} {xs : Nat → Int32}
theorem st_E (l : Launch) (X : lw_At p s m meth c b L xs) : ∃ (D : va_G) (sa : Nat → Nat) (cI cB cZ cJ cQ : ClassId) (sv : Nat → Nat), CK0 (mkE l D s.heap.size sa cI cB cZ cJ cQ sv) s ∧ CK (mkE l D s.heap.size sa cI cB cZ cJ cQ sv) s ∧ TK (mkE l D s.heap.size sa cI cB cZ cJ cQ sv) s := by
  obtain ⟨x1, x2, x3, x4, x5, x6, x7, x8, x9, x10⟩ := X
  have hts : ∀ w ∈ TW, w.before #[Value.ref b] s = true := fun w hw => x6 w (List.mem_filter.mp hw).1
  obtain ⟨D, cI, cB, cZ, cJ, cQ, hK, hQ⟩ := st_arrs hts (x6 _ st_210)
  obtain ⟨sa, sv, hS, hev⟩ := st_str (A := newA s) x10 (fun a h1 h2 => Nat.not_lt.mpr h2 h1)
  have hN := st_nest x6
  have hAN : ∀ q, AA (mkE l D s.heap.size sa cI cB cZ cJ cQ sv) q → newA s q := fun q hq => (AA_mk l D s.heap.size sa cI cB cZ cJ cQ sv hq).1
  have hA : ∀ a : Nat, a < s.heap.size → ¬ AA (mkE l D s.heap.size sa cI cB cZ cJ cQ sv) a := fun a h1 h2 => Nat.not_lt.mpr (hAN a h2) h1
  have esa : (fun i => eA (mkE l D s.heap.size sa cI cB cZ cJ cQ sv) (300 + i) 0) = sa := by
    funext i
    show cond (Nat.blt (300 + i) 78) _ (sa (300 + i - 300)) = sa i
    have hb : Nat.blt (300 + i) 78 = false := by
      cases hb : Nat.blt (300 + i) 78 with
      | false => rfl
      | true => exact absurd (Nat.blt_eq.mp hb) (by omega)
    rw [hb, Nat.add_sub_cancel_left]
    rfl
  have hR : ∀ q ∈ slk, vk_R (cnm q.1) q.2.1 q.2.2.2 (eA (mkE l D s.heap.size sa cI cB cZ cJ cQ sv) q.2.2.1 0) s := by
    intro q hq
    have h1 := st_slk x10 x6 hev q hq
    have h2 : slk.all (fun q => Nat.ble 300 q.2.2.1) = true := by decide +kernel
    have h3 := Nat.le_of_ble_eq_true (List.all_eq_true.mp h2 q hq)
    have h4 : eA (mkE l D s.heap.size sa cI cB cZ cJ cQ sv) q.2.2.1 0 = sa (q.2.2.1 - 300) := by
      have h5 := congrFun esa (q.2.2.1 - 300)
      rw [show 300 + (q.2.2.1 - 300) = q.2.2.1 by omega] at h5
      exact h5
    rw [h4]
    exact h1
  refine ⟨D, sa, cI, cB, cZ, cJ, cQ, sv, ⟨hK, hN, hQ⟩, ⟨GE_mk l D s.heap.size sa cI cB cZ cJ cQ sv, hK, hN, hR, ?_, ?_, ?_⟩, st_nsB x6, ?_, ⟨sa 8, ?_⟩, ?_, ?_⟩
  · rw [esa]
    exact hS.narrow hAN
  · exact va_Zof (st_w x6 541 (by decide +kernel)) (st_w x6 103 (by decide +kernel)) (va_eqt (nw_at x10 (k := 4) (by decide +kernel))) hA
  · exact va_Zqof (st_w x6 557 (by decide +kernel)) (st_w x6 105 (by decide +kernel)) (nw_at x10 (k := 5) (by decide +kernel)) hA
  · exact va_Nw.of rfl (st_w x6 1098 (by decide +kernel))
  · exact st_r1 x6 hev 8 1135 (own := "ChannelSqueeze") (x := 373) (by omega) rfl (by decide +kernel)
  · exact vx_Zqof (st_w x6 1123 (by decide +kernel)) (st_w x6 109 (by decide +kernel)) (nw_at x10 (k := 9) (by decide +kernel)) hA
  · exact vx_Zqof (st_w x6 1125 (by decide +kernel)) (st_w x6 109 (by decide +kernel)) (nw_at x10 (k := 10) (by decide +kernel)) hA
theorem st_fl (l : Launch) (hflags : l.flags = flags0) : l.stackTraces = false := by
  unfold Launch.stackTraces
  rw [hflags]
  decide +kernel
theorem whole_start (l : Launch) (hflags : l.flags = flags0) (hL : L ≤ 3072) (C0 : lw_At p s m meth c b L xs) : W p l e room_1 s m #[Value.ref b] below meth c s.heap [] 0 0 (lw_Z below #[Value.ref b] s) (entryFrame m ([Value.ref b] : List Value).toArray 7) := by
  obtain ⟨D, sa, cI, cB, cZ, cJ, cQ, sv, h1, h2, h3⟩ := st_E l C0
  have X : LX (mkE l D s.heap.size sa cI cB cZ cJ cQ sv) p s m meth c b L xs (s.heap.size + 118) := ⟨C0, h2, fun q hq => (AA_mk l D s.heap.size sa cI cB cZ cJ cQ sv hq).1, Nat.le_add_right _ _, fun hq => Nat.lt_irrefl _ (AA_mk l D s.heap.size sa cI cB cZ cJ cQ sv hq).2⟩
  have hl := lv_entry ([.ref b]) (n := 7) (Nat.le_of_ble_eq_true rfl)
  rw [lg_entry_eq]
  generalize (lg_sl ([.ref b]) ++ List.replicate (7 - (lg_sl ([.ref b])).length) Slot.unset).toArray = ls at hl ⊢
  have hl : lv_has ls 7 [(0, .ref b)] := hl
  refine lw_begin (E := mkE l D s.heap.size sa cI cB cZ cJ cQ sv) C0 h1 rfl hl (fun H locs js hC hS hl2 => ?_)
  have hlet := let_ok (e := e) (below := below) X h3 (st_fl l hflags) hL (C0 := 119) (S0 := 6224)
  have key := l_loop X hL (C0 := 119) (S0 := 6224) (Nat.le_of_ble_eq_true rfl) (Nat.le_of_ble_eq_true rfl) hlet (L + 1) 0 me0 (fun _ => 0) (Nat.zero_le _) (by omega) WI_st
  exact key H locs js (st_P l D s.heap.size sa cI cB cZ cJ cQ sv hC.2.2.1) (st_O l D s.heap.size sa cI cB cZ cJ cQ sv hC.2.2.1) hS hl2 okMe0
end SY
