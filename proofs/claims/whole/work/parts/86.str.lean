/-! length() and charAt(k) of the class's own words -/
def Pcv (E : EV) (as : List Value) (M : Me) : Array Value → State → Prop := va_Pc as (fun U => CK E U ∧ va_P (eG E) vwCl (wsE E M) U.heap)
def Mv (E : EV) (d : Nat) (y : MethodName) (cc : ByteArray) (n : Nat) (ret : Option FieldType) (as : List Value) (M : Me) (Q : Option AV → Me → Prop) : Prop := Met (eL E) y (Cond.code y cc n ret :: TW) (rmd d) (Pcv E as M) (Qc E Q) 0 0 (AA E)
theorem blindv {E : EV} {as : List Value} {M : Me} : FrameBlind (Pcv E as M) := fun a U g mk q => ⟨q.1, CK_same q.2.1 rfl rfl, q.2.2⟩
theorem pre_atv {E : EV} {M : Me} {as : List Value} {s : State} {H : Heap} {locs : List Loc} (hC : CK E s) (hP : va_P (eG E) vwCl (wsE E M) H) (hS : va_S (AA E) s.heap H locs) : ∀ U : State, U.heap = H → s.WarmedH U.vm → Pcv E as M as.toArray U := fun U hU hW => ⟨rfl, CK_warm hC hW (fun a h1 h2 => by rw [hU]; exact hS.2.1 a h1 h2), by rw [hU]; exact hP⟩
theorem good_code {w : Cond} (h : w ∈ TW) : GoodIn TW (w :: TW) := fun u hu => (List.mem_cons.mp hu).elim (fun e => by rw [e]; exact tw_good _ h) (fun h => tw_good u h)
theorem js_528 : Cond.instanceMethod yJ0_coder_7d493 ∈ TW := tw_mem 537 (by decide +kernel) rfl
theorem js_527 : Cond.methodLink "java/lang/String" 335 yJ0_coder_7d493 ∈ TW := tw_mem 536 (by decide +kernel) rfl
theorem js_529 : Cond.selects "java/lang/String" yJ0_coder_7d493 yJ0_coder_7d493 ∈ TW := tw_mem 538 (by decide +kernel) rfl
theorem js_530 : Cond.code yJ0_coder_7d493 cJ0_coder_7d493 1 (some .byte) ∈ TW := tw_mem 539 (by decide +kernel) rfl
theorem js_531 : Cond.fieldLink "java/lang/String" 38 "java/lang/String" "COMPACT_STRINGS" "Z" ∈ TW := tw_mem 540 (by decide +kernel) rfl
theorem js_537 : Cond.methodLink "java/lang/String" 492 yJ0_isLatin1_aae02 ∈ TW := tw_mem 546 (by decide +kernel) rfl
theorem js_538 : Cond.instanceMethod yJ0_isLatin1_aae02 ∈ TW := tw_mem 547 (by decide +kernel) rfl
theorem js_539 : Cond.selects "java/lang/String" yJ0_isLatin1_aae02 yJ0_isLatin1_aae02 ∈ TW := tw_mem 548 (by decide +kernel) rfl
theorem js_540 : Cond.code yJ0_isLatin1_aae02 cJ0_isLatin1_aae02 1 (some .boolean) ∈ TW := tw_mem 549 (by decide +kernel) rfl
theorem js_541 : Cond.methodLink "java/lang/String" 495 yJ1_charAt_3b067 ∈ TW := tw_mem 550 (by decide +kernel) rfl
theorem js_542 : Cond.static yJ1_charAt_3b067 ∈ TW := tw_mem 551 (by decide +kernel) rfl
theorem js_543 : Cond.code yJ1_charAt_3b067 cJ1_charAt_3b067 2 (some .char) ∈ TW := tw_mem 552 (by decide +kernel) rfl
theorem js_544 : Cond.methodLink "java/lang/StringLatin1" 9 yJ0_checkIndex_df160 ∈ TW := tw_mem 553 (by decide +kernel) rfl
theorem js_545 : Cond.static yJ0_checkIndex_df160 ∈ TW := tw_mem 554 (by decide +kernel) rfl
theorem js_546 : Cond.code yJ0_checkIndex_df160 cJ0_checkIndex_df160 2 none ∈ TW := tw_mem 555 (by decide +kernel) rfl
theorem js_547 : Cond.fieldLink "java/lang/String" 1053 "jdk/internal/util/Preconditions" "SIOOBE_FORMATTER" "Ljava/util/function/BiFunction;" ∈ TW := tw_mem 556 (by decide +kernel) rfl
theorem js_549 : Cond.methodLink "java/lang/String" 1059 yJ3_checkIndex_8e157 ∈ TW := tw_mem 558 (by decide +kernel) rfl
theorem js_550 : Cond.static yJ3_checkIndex_8e157 ∈ TW := tw_mem 559 (by decide +kernel) rfl
theorem js_551 : Cond.code yJ3_checkIndex_8e157 cJ3_checkIndex_8e157 3 (some .int) ∈ TW := tw_mem 560 (by decide +kernel) rfl
theorem js_102 : Cond.initialized "java/lang/String" ∈ TW := tw_mem 103 (by decide +kernel) rfl
theorem js_103 : Cond.initialized "java/lang/StringLatin1" ∈ TW := tw_mem 104 (by decide +kernel) rfl
theorem js_104 : Cond.initialized "jdk/internal/util/Preconditions" ∈ TW := tw_mem 105 (by decide +kernel) rfl
theorem js_1697 : Cond.fieldLink "java/lang/String" 9 "java/lang/String" "value" "[B" ∈ TW := tw_mem 1711 (by decide +kernel) rfl
theorem js_1698 : Cond.fieldLink "java/lang/String" 15 "java/lang/String" "coder" "B" ∈ TW := tw_mem 1712 (by decide +kernel) rfl
theorem js_526 : Cond.code yJ0_length_8abf5 cJ0_length_8abf5 1 (some .int) ∈ TW := tw_mem 535 (by decide +kernel) rfl
theorem js_536 : Cond.code yJ0_charAt_5068e cJ0_charAt_5068e 2 (some .char) ∈ TW := tw_mem 545 (by decide +kernel) rfl
theorem nar_ch : ∀ b, b < 128 → narrow .char (.int (nI b)) = .int (nI b) := by decide +kernel
section ST
variable (E : EV) (d : Nat) (M : Me)
theorem j_check3 (k n : Nat) (hk : k < n) (hn : n < 2 ^ 31) (v : Value) (hv : v = .null ∨ ∃ t, v = .ref t) (o3 : okMe M) : Mv E d yJ3_checkIndex_8e157 cJ3_checkIndex_8e157 3 (some .int) [.int (nI k), .int (nI n), v] M (RP (vI (nI k)) M) := by
  refine Met.ofW (cc := cJ3_checkIndex_8e157) (maxL := 3) (ret := some .int) (by decide) rfl ?_
  intro p e s m args below meth c s₁ B hml hv'
  obtain ⟨rfl, hC, hP⟩ := hv'
  have hS : va_S (AA E) s.heap s.heap [] := va_S.rf
  have key : ∀ js, lv_has js 3 [(0, .int (nI k)), (1, .int (nI n)), (2, v)] → W p (eL E) e (rmd d) s m [.int (nI k), .int (nI n), v].toArray below meth c s.heap [] 0 0 (MQ below (Qc E (RP (vI (nI k)) M)) [.int (nI k), .int (nI n), v].toArray s 0 0 (AA E)) (F0 m 0 js []) := by
    intro js hl
    refine lv_iload_n B.exec B.bytes (k := 0) (show decode cJ3_checkIndex_8e157 0 = .ok (.iload_n 0, 1) by decide +kernel) rfl (lv_at hl 0 rfl) ?_
    refine lv_if_lt B.exec B.bytes (tgt := 9) (show decode cJ3_checkIndex_8e157 1 = .ok (.ifCond .lt 8, 3) by decide +kernel) rfl (fun z => absurd z (nI_pos (by omega))) (fun _ => ?_)
    refine lv_iload_n B.exec B.bytes (k := 0) (show decode cJ3_checkIndex_8e157 4 = .ok (.iload_n 0, 1) by decide +kernel) rfl (lv_at hl 0 rfl) ?_
    refine lv_iload_n B.exec B.bytes (k := 1) (show decode cJ3_checkIndex_8e157 5 = .ok (.iload_n 1, 1) by decide +kernel) rfl (lv_at hl 1 rfl) ?_
    refine lv_icmp_lt B.exec B.bytes (tgt := 16) (show decode cJ3_checkIndex_8e157 6 = .ok (.if_icmp .lt 10, 3) by decide +kernel) rfl (fun _ => ?_) (fun z => absurd (nI_lt hk hn) z)
    refine lv_iload_n B.exec B.bytes (k := 0) (show decode cJ3_checkIndex_8e157 16 = .ok (.iload_n 0, 1) by decide +kernel) rfl (lv_at hl 0 rfl) ?_
    exact W.iret (v := nI k) B.exec B.bytes B.returns (fun t ht hW => ⟨⟨some (vI (nI k)), M, rfl, ⟨rfl, rfl⟩, o3, fun v hv => by cases hv; trivial, by rw [ht]; exact hP⟩, hS.F ht⟩) hS.2.2 (show decode cJ3_checkIndex_8e157 17 = .ok (.ireturn, 1) by decide +kernel) B.notSynchronized
  rw [lg_entry_eq]
  rcases hv with rfl | ⟨t, rfl⟩
  · exact key _ (lv_entry [.int (nI k), .int (nI n), .null] (n := 3) (Nat.le_of_ble_eq_true rfl))
  · exact key _ (lv_entry [.int (nI k), .int (nI n), .ref t] (n := 3) (Nat.le_of_ble_eq_true rfl))
theorem j_check2 (k n : Nat) (hk : k < n) (hn : n < 2 ^ 31) (o3 : okMe M) : Mv E (d + 1) yJ0_checkIndex_df160 cJ0_checkIndex_df160 2 none [.int (nI k), .int (nI n)] M (fun r M' => r = none ∧ M' = M) := by
  refine Met.ofW (cc := cJ0_checkIndex_df160) (maxL := 2) (ret := none) (by decide) rfl ?_
  intro p e s m args below meth c s₁ B hml hv'
  obtain ⟨rfl, hC, hP⟩ := hv'
  have hS : va_S (AA E) s.heap s.heap [] := va_S.rf
  have hts0 := atoms_spec (ws := Cond.code yJ0_checkIndex_df160 cJ0_checkIndex_df160 2 none :: TW) B.pre
  have hts : ∀ w ∈ TW, w.before [.int (nI k), .int (nI n)].toArray s = true := fun w hw => hts0 w (List.mem_cons_of_mem _ hw)
  have hown : s.vm.findClass "java/lang/String" = some m.cls := findClass_of_methodNamed B.named
  rw [lg_entry_eq]
  have hl := lv_entry [.int (nI k), .int (nI n)] (n := 2) (Nat.le_of_ble_eq_true rfl)
  generalize (lg_sl ([.int (nI k), .int (nI n)]) ++ List.replicate (2 - (lg_sl ([.int (nI k), .int (nI n)])).length) Slot.unset).toArray = js at hl ⊢
  have hl : lv_has js 2 [(0, .int (nI k)), (1, .int (nI n))] := hl
  refine lv_iload_n B.exec B.bytes (k := 0) (show decode cJ0_checkIndex_df160 0 = .ok (.iload_n 0, 1) by decide +kernel) rfl (lv_at hl 0 rfl) ?_
  refine lv_iload_n B.exec B.bytes (k := 1) (show decode cJ0_checkIndex_df160 1 = .ok (.iload_n 1, 1) by decide +kernel) rfl (lv_at hl 1 rfl) ?_
  have rest : ∀ v : Value, (v = .null ∨ ∃ t, v = .ref t) → W p (eL E) e (rmd (d + 1)) s m [.int (nI k), .int (nI n)].toArray below meth c s.heap [] 0 0 (MQ below (Qc E (fun r M' => r = none ∧ M' = M)) [.int (nI k), .int (nI n)].toArray s 0 0 (AA E)) (F0 m 5 js [v, .int (nI n), .int (nI k)]) := by
    intro v hv
    refine w_after (E := E) (Q' := RP (vI (nI k)) M) (a := [.int (nI k), .int (nI n), v].toArray) (rest := []) (va_runS (As := [.int (nI k), .int (nI n), v]) (rest := []) ⟨B.exec, B.bytes, hml, hown, hts⟩ (j_check3 E d M k n hk hn v hv o3) ⟨callB_of 3 hts (good_code js_551) rfl rfl rfl (hts _ js_104) (hts _ js_549) (by decide +kernel) (room_ok (Nat.lt_succ_self d) (show 3 < 40 by omega)), hts _ js_550⟩ ⟨blindv, pre_atv hC hP hS⟩ rfl rfl hl.1 rfl (lv_room (Nat.le_of_ble_eq_true rfl)) (show decode cJ0_checkIndex_df160 5 = .ok (.invokestatic 1059, 3) by decide +kernel) ⟨Nat.le_refl _, Nat.le_refl _⟩) hS ?_
    rintro r M' H1 locs1 ⟨rfl, rfl⟩ q2 q3 q4 q5
    refine lv_pop B.exec B.bytes (va := .int (nI k)) (show decode cJ0_checkIndex_df160 8 = .ok (.pop, 1) by decide +kernel) rfl ?_
    exact W.vret B.exec B.bytes B.returns (fun t ht hW => ⟨⟨none, M', rfl, ⟨rfl, rfl⟩, o3, fun v hv => (by cases hv), by rw [ht]; exact q4⟩, q5.F ht⟩) q5.2.2 (show decode cJ0_checkIndex_df160 9 = .ok (.return_, 1) by decide +kernel) B.notSynchronized
  rcases hC.2.2.2.2.2.2 with hZ | ⟨t, hZ⟩
  · exact va_gets B.exec B.bytes hZ hS hown (hts _ js_547) (fun _ h => h) (show decode cJ0_checkIndex_df160 2 = .ok (.getstatic 1053, 3) by decide +kernel) (rest _ (Or.inl rfl))
  · exact va_gets B.exec B.bytes hZ hS hown (hts _ js_547) (fun _ h => h) (show decode cJ0_checkIndex_df160 2 = .ok (.getstatic 1053, 3) by decide +kernel) (rest _ (Or.inr ⟨t, rfl⟩))
end ST
