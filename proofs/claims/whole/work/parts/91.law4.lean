/-! the law's switch and its loop -/
theorem b_63 : ∀ i, i < 32 → bt (nI 63) i = decide (i < 6) := by decide +kernel
theorem and63 (x : Int32) : ∃ j, x &&& nI 63 = nI j ∧ j < 2 ^ 6 := by
  refine setLt8 (n := 6) (by omega) (fun i hi hb => ?_)
  rw [b_and, b_63 i hi, Bool.and_eq_true] at hb
  exact of_decide_eq_true hb.2
def bz (v : Int32) : Int32 := if v = 0 then nI 0 else nI 1
theorem bz_01 (v : Int32) : bz v = nI 0 ∨ bz v = nI 1 := by
  unfold bz
  by_cases h : v = 0
  · rw [if_pos h]; exact Or.inl rfl
  · rw [if_neg h]; exact Or.inr rfl
theorem WI_up {M : Me} {n : Nat} (h : WI M n) (hn : n + 1 < 2000) : WI M (n + 1) := by
  obtain ⟨w1, w2, w3, w7, w8⟩ := h
  exact ⟨w1, w2, w3, KNm_up w7 hn, w8⟩
section LO
variable {E : EV} {p : Program} {e : Env} {s : State} {m : MethodId} {below : List Frame} {meth : Method} {c : Code} {b o L nc ns i : Nat} {xs : Nat → Int32} {M : Me} {fo : Nat → Int64}
theorem l_bool (X : LX E p s m meth c b L xs o) {pc : Nat} {v : Int32} {st : List Value} (h : (isI pc (.ifCond .eq 7) 3 && (isI (pc + 3) (.iconst 1) 1 && (isI (pc + 4) (.goto 4) 3 && isI (pc + 7) (.iconst 0) 1))) = true) (k : Lp E p e s m below meth c b o nc ns i (pc + 8) (.int (bz v) :: st) M fo) : Lp E p e s m below meth c b o nc ns i pc (.int v :: st) M fo := by
  simp only [Bool.and_eq_true] at h
  obtain ⟨d0, d1, d2, d3⟩ := h
  intro H locs js h1 h2 h3 hl h5
  have k := k H locs js h1 h2 h3 hl h5
  unfold bz at k
  refine lv_if_eq X.1.1 X.1.2.1 (tgt := pc + 7) (isI_d d0) (by omega) (fun z => ?_) (fun z => ?_)
  · rw [if_pos z] at k
    exact lv_iconst X.1.1 X.1.2.1 (v := nI 0) (isI_d d3) (by decide) k
  · rw [if_neg z] at k
    refine lv_iconst X.1.1 X.1.2.1 (v := nI 1) (isI_d d1) (by decide) ?_
    exact lv_goto X.1.1 X.1.2.1 (tgt := pc + 8) (isI_d d2) (by omega) k
theorem l_move (X : LX E p s m meth c b L xs o) (hL : L ≤ 3072) (hi : i + 6 ≤ L) (hnc : nc ≤ 601024) (hns : ns ≤ 7293034) {t : Nat} (ht : t + 1 < 2000) (hW : WI M t) (next : ∀ M2, WI M2 (t + 1) → Lp E p e s m below meth c b o nc ns i 1664 [] M2 fo) : Lp E p e s m below meth c b o nc ns i 1232 [] M fo := by
  have as_ok : okSt [vI (xs (i + 1)), vI (xs (i + 2)), vI (bz (xs (i + 3)))] := okSt_cons trivial (okSt_cons trivial (okSt_cons trivial (fun v hv => by cases hv)))
  refine l_al1 X (by decide +kernel) ?_
  refine l_args X hL hi 2 1233 1 _ (by omega) (by decide +kernel) ?_
  refine l_arg X hL (k := 3) (by omega) (by omega) (by decide +kernel) ?_
  refine l_bool X (by decide +kernel) ?_
  refine l_call X (ix := 136) (a := 102) (q := 0) (n := 3) (as := [vI (xs (i + 1)), vI (xs (i + 2)), vI (bz (xs (i + 3)))]) (rest := []) (Or.inl rfl) (by decide +kernel) (by decide) (tw_mem 1020 (by decide +kernel) rfl) rfl rfl ok_CS_move.1 as_ok rfl (by decide +kernel) (Nat.zero_le _) hnc hns (k_move E (xs (i + 1)) (xs (i + 2)) (bz (xs (i + 3))) (bz_01 _) t M ht hW) ?_
  rintro r M1 ⟨v, rfl, hk2⟩
  refine l_al2 X (by decide +kernel) ?_
  refine l_args X hL hi 2 1263 1 _ (by omega) (by decide +kernel) ?_
  refine l_arg X hL (k := 3) (by omega) (by omega) (by decide +kernel) ?_
  refine l_bool X (by decide +kernel) ?_
  refine l_call X (ix := 140) (a := 210) (q := 60) (n := 3) (as := [vI (xs (i + 1)), vI (xs (i + 2)), vI (bz (xs (i + 3)))]) (rest := [.int v]) (Or.inr rfl) (by decide +kernel) (by decide) (tw_mem 1636 (by decide +kernel) rfl) rfl rfl ok_Mo_move.1 as_ok rfl (by decide +kernel) (Nat.le_of_ble_eq_true rfl) hnc hns hk2 ?_
  rintro r M2 ⟨rfl, hW2⟩
  exact l_eq X (by decide +kernel) (off := 372) rfl (next M2 hW2)
theorem l_switch (X : LX E p s m meth c b L xs o) (hL : L ≤ 3072) (hi : i + 6 ≤ L) (hnc : nc ≤ 601024) (hns : ns ≤ 7293034) {t : Nat} (ht : t + 1 < 2000) (hW : WI M t) (next : ∀ M2, WI M2 (t + 1) → Lp E p e s m below meth c b o nc ns i 1664 [] M2 fo) (hlet : Lp E p e s m below meth c b o nc ns i 1570 [] M fo) : Lp E p e s m below meth c b o nc ns i 33 [] M fo := by
  obtain ⟨x1, x2, x3, x4, x5, x6, x7, x8, x9, x10⟩ := X.1
  intro H locs js h1 h2 h3 hl h5
  refine lv_aload_n x1 x2 (isI_d (show isI 33 (.aload_n 0) 1 = true by decide +kernel)) rfl (lv_at hl 0 rfl) ?_
  refine lv_iload x1 x2 (isI_d (show isI 34 (.iload 4) 2 = true by decide +kernel)) (lv_at hl 4 rfl) ?_
  refine va_sld x1 x2 x7 x8 (show ¬ newA s b from fun z => Nat.not_lt.mpr z x8) h3 (i := nI i) (vp_in_nI (by omega) (by omega)) (isI_d (show isI 36 .iaload 1 = true by decide +kernel)) ?_
  rw [nI_clamp (show i < 2 ^ 31 by omega)]
  refine lv_bipush x1 x2 (v := nI 63) (isI_d (show isI 37 (.bipush 63) 2 = true by decide +kernel)) (by decide) ?_
  refine lv_iand x1 x2 (isI_d (show isI 39 .iand 1 = true by decide +kernel)) ?_
  obtain ⟨j, ej, hj⟩ := and63 (xs i)
  rw [ej]
  have hd : isI 40 (.tableswitch 1624 0 40 #[180, 253, 278, 291, 304, 329, 366, 403, 440, 477, 502, 527, 564, 613, 650, 675, 712, 749, 798, 859, 920, 945, 982, 1019, 1056, 1093, 1142, 1167, 1192, 1257, 1294, 1319, 1344, 1393, 1430, 1467, 1480, 1505, 1530, 1598, 1611]) 180 = true := by decide +kernel
  have hd := isI_d hd
  by_cases hj2 : j ≤ 40
  · match j, hj2 with
    | 0, _ => exact lv_tableIn x1 x2 (off := 180) (tgt := 220) hd (by decide +kernel) (by decide +kernel) (by decide +kernel) rfl (l_feed X hL hi hnc hns ht hW next H locs js h1 h2 h3 hl h5)
    | 1, _ => exact lv_tableIn x1 x2 (off := 253) (tgt := 293) hd (by decide +kernel) (by decide +kernel) (by decide +kernel) rfl (l_text X hL hi hnc hns ht hW next H locs js h1 h2 h3 hl h5)
    | 2, _ => exact lv_tableIn x1 x2 (off := 278) (tgt := 318) hd (by decide +kernel) (by decide +kernel) (by decide +kernel) rfl (l_fault X hL hi hnc hns ht hW next H locs js h1 h2 h3 hl h5)
    | 3, _ => exact lv_tableIn x1 x2 (off := 291) (tgt := 331) hd (by decide +kernel) (by decide +kernel) (by decide +kernel) rfl (l_where X hL hi hnc hns ht hW next H locs js h1 h2 h3 hl h5)
    | 4, _ => exact lv_tableIn x1 x2 (off := 304) (tgt := 344) hd (by decide +kernel) (by decide +kernel) (by decide +kernel) rfl (l_about X hL hi hnc hns ht hW next H locs js h1 h2 h3 hl h5)
    | 5, _ => exact lv_tableIn x1 x2 (off := 329) (tgt := 369) hd (by decide +kernel) (by decide +kernel) (by decide +kernel) rfl (l_station X hL hi hnc hns ht hW next H locs js h1 h2 h3 hl h5)
    | 6, _ => exact lv_tableIn x1 x2 (off := 366) (tgt := 406) hd (by decide +kernel) (by decide +kernel) (by decide +kernel) rfl (l_border X hL hi hnc hns ht hW next H locs js h1 h2 h3 hl h5)
    | 7, _ => exact lv_tableIn x1 x2 (off := 403) (tgt := 443) hd (by decide +kernel) (by decide +kernel) (by decide +kernel) rfl (l_far X hL hi hnc hns ht hW next H locs js h1 h2 h3 hl h5)
    | 8, _ => exact lv_tableIn x1 x2 (off := 440) (tgt := 480) hd (by decide +kernel) (by decide +kernel) (by decide +kernel) rfl (l_near X hL hi hnc hns ht hW next H locs js h1 h2 h3 hl h5)
    | 9, _ => exact lv_tableIn x1 x2 (off := 477) (tgt := 517) hd (by decide +kernel) (by decide +kernel) (by decide +kernel) rfl (l_on X hL hi hnc hns ht hW next H locs js h1 h2 h3 hl h5)
    | 10, _ => exact lv_tableIn x1 x2 (off := 502) (tgt := 542) hd (by decide +kernel) (by decide +kernel) (by decide +kernel) rfl (l_free X hL hi hnc hns ht hW next H locs js h1 h2 h3 hl h5)
    | 11, _ => exact lv_tableIn x1 x2 (off := 527) (tgt := 567) hd (by decide +kernel) (by decide +kernel) (by decide +kernel) rfl (l_fits X hL hi hnc hns ht hW next H locs js h1 h2 h3 hl h5)
    | 12, _ => exact lv_tableIn x1 x2 (off := 564) (tgt := 604) hd (by decide +kernel) (by decide +kernel) (by decide +kernel) rfl (l_rowOf X hL hi hnc hns ht hW next H locs js h1 h2 h3 hl h5)
    | 13, _ => exact lv_tableIn x1 x2 (off := 613) (tgt := 653) hd (by decide +kernel) (by decide +kernel) (by decide +kernel) rfl (l_rows X hL hi hnc hns ht hW next H locs js h1 h2 h3 hl h5)
    | 14, _ => exact lv_tableIn x1 x2 (off := 650) (tgt := 690) hd (by decide +kernel) (by decide +kernel) (by decide +kernel) rfl (l_fewest X hL hi hnc hns ht hW next H locs js h1 h2 h3 hl h5)
    | 15, _ => exact lv_tableIn x1 x2 (off := 675) (tgt := 715) hd (by decide +kernel) (by decide +kernel) (by decide +kernel) rfl (l_proof X hL hi hnc hns ht hW next H locs js h1 h2 h3 hl h5)
    | 16, _ => exact lv_tableIn x1 x2 (off := 712) (tgt := 752) hd (by decide +kernel) (by decide +kernel) (by decide +kernel) rfl (l_cheapest X hL hi hnc hns ht hW next H locs js h1 h2 h3 hl h5)
    | 17, _ => exact lv_tableIn x1 x2 (off := 749) (tgt := 789) hd (by decide +kernel) (by decide +kernel) (by decide +kernel) rfl (l_could X hL hi hnc hns ht hW next H locs js h1 h2 h3 hl h5)
    | 18, _ => exact lv_tableIn x1 x2 (off := 798) (tgt := 838) hd (by decide +kernel) (by decide +kernel) (by decide +kernel) rfl (l_clock X hL hi hnc hns ht hW next H locs js h1 h2 h3 hl h5)
    | 19, _ => exact lv_tableIn x1 x2 (off := 859) (tgt := 899) hd (by decide +kernel) (by decide +kernel) (by decide +kernel) rfl (l_pay X hL hi hnc hns ht hW next H locs js h1 h2 h3 hl h5)
    | 20, _ => exact lv_tableIn x1 x2 (off := 920) (tgt := 960) hd (by decide +kernel) (by decide +kernel) (by decide +kernel) rfl (l_squeeze X hL hi hnc hns ht hW next H locs js h1 h2 h3 hl h5)
    | 21, _ => exact lv_tableIn x1 x2 (off := 945) (tgt := 985) hd (by decide +kernel) (by decide +kernel) (by decide +kernel) rfl (l_squeezeOf X hL hi hnc hns ht hW next H locs js h1 h2 h3 hl h5)
    | 22, _ => exact lv_tableIn x1 x2 (off := 982) (tgt := 1022) hd (by decide +kernel) (by decide +kernel) (by decide +kernel) rfl (l_order X hL hi hnc hns ht hW next H locs js h1 h2 h3 hl h5)
    | 23, _ => exact lv_tableIn x1 x2 (off := 1019) (tgt := 1059) hd (by decide +kernel) (by decide +kernel) (by decide +kernel) rfl (l_steps X hL hi hnc hns ht hW next H locs js h1 h2 h3 hl h5)
    | 24, _ => exact lv_tableIn x1 x2 (off := 1056) (tgt := 1096) hd (by decide +kernel) (by decide +kernel) (by decide +kernel) rfl (l_due X hL hi hnc hns ht hW next H locs js h1 h2 h3 hl h5)
    | 25, _ => exact lv_tableIn x1 x2 (off := 1093) (tgt := 1133) hd (by decide +kernel) (by decide +kernel) (by decide +kernel) rfl (l_heard X hL hi hnc hns ht hW next H locs js h1 h2 h3 hl h5)
    | 26, _ => exact lv_tableIn x1 x2 (off := 1142) (tgt := 1182) hd (by decide +kernel) (by decide +kernel) (by decide +kernel) rfl (l_islands X hL hi hnc hns ht hW next H locs js h1 h2 h3 hl h5)
    | 27, _ => exact lv_tableIn x1 x2 (off := 1167) (tgt := 1207) hd (by decide +kernel) (by decide +kernel) (by decide +kernel) rfl (l_lower X hL hi hnc hns ht hW next H locs js h1 h2 h3 hl h5)
    | 28, _ => exact lv_tableIn x1 x2 (off := 1192) (tgt := 1232) hd (by decide +kernel) (by decide +kernel) (by decide +kernel) rfl (l_move X hL hi hnc hns ht hW next H locs js h1 h2 h3 hl h5)
    | 29, _ => exact lv_tableIn x1 x2 (off := 1257) (tgt := 1297) hd (by decide +kernel) (by decide +kernel) (by decide +kernel) rfl (l_buy X hL hi hnc hns ht hW next H locs js h1 h2 h3 hl h5)
    | 30, _ => exact lv_tableIn x1 x2 (off := 1294) (tgt := 1334) hd (by decide +kernel) (by decide +kernel) (by decide +kernel) rfl (l_air X hL hi hnc hns ht hW next H locs js h1 h2 h3 hl h5)
    | 31, _ => exact lv_tableIn x1 x2 (off := 1319) (tgt := 1359) hd (by decide +kernel) (by decide +kernel) (by decide +kernel) rfl (l_lay X hL hi hnc hns ht hW next H locs js h1 h2 h3 hl h5)
    | 32, _ => exact lv_tableIn x1 x2 (off := 1344) (tgt := 1384) hd (by decide +kernel) (by decide +kernel) (by decide +kernel) rfl (l_clear X hL hi hnc hns ht hW next H locs js h1 h2 h3 hl h5)
    | 33, _ => exact lv_tableIn x1 x2 (off := 1393) (tgt := 1433) hd (by decide +kernel) (by decide +kernel) (by decide +kernel) rfl (l_value X hL hi hnc hns ht hW next H locs js h1 h2 h3 hl h5)
    | 34, _ => exact lv_tableIn x1 x2 (off := 1430) (tgt := 1470) hd (by decide +kernel) (by decide +kernel) (by decide +kernel) rfl (l_ban X hL hi hnc hns ht hW next H locs js h1 h2 h3 hl h5)
    | 35, _ => exact lv_tableIn x1 x2 (off := 1467) (tgt := 1507) hd (by decide +kernel) (by decide +kernel) (by decide +kernel) rfl (l_undo X hL hi hnc hns ht hW next H locs js h1 h2 h3 hl h5)
    | 36, _ => exact lv_tableIn x1 x2 (off := 1480) (tgt := 1520) hd (by decide +kernel) (by decide +kernel) (by decide +kernel) rfl (l_keep X hL hi hnc hns ht hW next H locs js h1 h2 h3 hl h5)
    | 37, _ => exact lv_tableIn x1 x2 (off := 1505) (tgt := 1545) hd (by decide +kernel) (by decide +kernel) (by decide +kernel) rfl (l_back X hL hi hnc hns ht hW next H locs js h1 h2 h3 hl h5)
    | 38, _ => exact lv_tableIn x1 x2 (off := 1530) (tgt := 1570) hd (by decide +kernel) (by decide +kernel) (by decide +kernel) rfl (hlet H locs js h1 h2 h3 hl h5)
    | 39, _ => exact lv_tableIn x1 x2 (off := 1598) (tgt := 1638) hd (by decide +kernel) (by decide +kernel) (by decide +kernel) rfl (l_bytes X hL hi hnc hns ht hW next H locs js h1 h2 h3 hl h5)
    | 40, _ => exact lv_tableIn x1 x2 (off := 1611) (tgt := 1651) hd (by decide +kernel) (by decide +kernel) (by decide +kernel) rfl (l_trouble X hL hi hnc hns ht hW next H locs js h1 h2 h3 hl h5)
    | j + 41, hj2 => exact absurd hj2 (by omega)
  · refine lv_tableOut x1 x2 (tgt := 1664) hd (Or.inr ?_) rfl ?_
    · rw [nI_toInt (by omega)]; omega
    · have w := h5
      exact next M (WI_up hW ht) H locs js h1 h2 h3 hl h5
end LO
