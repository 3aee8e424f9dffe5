/-! length() and charAt(k) -/
theorem strB_ok : ∀ i, i < 8 → strLen.getD i 0 < 1000 ∧ ∀ k, k < strLen.getD i 0 → (strByt.getD i []).getD k 0 &&& nI 255 = nI (sB i k) ∧ (((strByt.getD i []).getD k 0 &&& nI 255).toUInt32 % 65536).toInt32 = nI (sB i k) ∧ sB i k < 128 := by decide +kernel
theorem shr0 : ∀ n, n < 16 → nI n >>> ((0 : Int32) &&& 31) = nI n := by decide +kernel
section ST2
variable (E : EV) (d : Nat) (M : Me)
theorem j_latin (i k : Nat) (hi : i < 8) (hk : k < sLn i) (o3 : okMe M) : Mv E (d + 2) yJ1_charAt_3b067 cJ1_charAt_3b067 2 (some .char) [.ref (eV E i), .int (nI k)] M (RP (vI (nI (sB i k))) M) := by
  obtain ⟨z1, z2⟩ := strB_ok i hi
  obtain ⟨z3, z4, z5⟩ := z2 k hk
  refine Met.ofW (cc := cJ1_charAt_3b067) (maxL := 2) (ret := some .char) (by decide) rfl ?_
  intro p e s m args below meth c s₁ B hml hv'
  obtain ⟨rfl, hC, hP⟩ := hv'
  have hS : va_S (AA E) s.heap s.heap [] := va_S.rf
  have hts0 := atoms_spec (ws := Cond.code yJ1_charAt_3b067 cJ1_charAt_3b067 2 (some .char) :: TW) B.pre
  have hts : ∀ w ∈ TW, w.before [.ref (eV E i), .int (nI k)].toArray s = true := fun w hw => hts0 w (List.mem_cons_of_mem _ hw)
  have hown : s.vm.findClass "java/lang/StringLatin1" = some m.cls := findClass_of_methodNamed B.named
  have hT := (hC.2.2.2.2.1.1 i (by omega)).2.2.2
  rw [lg_entry_eq]
  have hl := lv_entry [.ref (eV E i), .int (nI k)] (n := 2) (Nat.le_of_ble_eq_true rfl)
  generalize (lg_sl ([.ref (eV E i), .int (nI k)]) ++ List.replicate (2 - (lg_sl ([.ref (eV E i), .int (nI k)])).length) Slot.unset).toArray = js at hl ⊢
  have hl : lv_has js 2 [(0, .ref (eV E i)), (1, .int (nI k))] := hl
  refine lv_iload_n B.exec B.bytes (k := 1) (show decode cJ1_charAt_3b067 0 = .ok (.iload_n 1, 1) by decide +kernel) rfl (lv_at hl 1 rfl) ?_
  refine lv_aload_n B.exec B.bytes (k := 0) (show decode cJ1_charAt_3b067 1 = .ok (.aload_n 0, 1) by decide +kernel) rfl (lv_at hl 0 rfl) ?_
  refine va_tlen B.exec B.bytes hT hS (v := nI (sLn i)) rfl (show decode cJ1_charAt_3b067 2 = .ok (.arraylength, 1) by decide +kernel) ?_
  refine w_after (E := E) (Q' := fun r M' => r = none ∧ M' = M) (a := [.int (nI k), .int (nI (sLn i))].toArray) (rest := []) (va_runS (As := [.int (nI k), .int (nI (sLn i))]) (rest := []) ⟨B.exec, B.bytes, hml, hown, hts⟩ (j_check2 E d M k (sLn i) hk (show strLen.getD i 0 < 2 ^ 31 by omega) o3) ⟨callB_of 2 hts (good_code js_546) rfl rfl rfl (hts _ js_102) (hts _ js_544) (by decide +kernel) (room_ok (Nat.lt_succ_self _) (show 2 < 40 by omega)), hts _ js_545⟩ ⟨blindv, pre_atv hC hP hS⟩ rfl rfl hl.1 rfl (lv_room (Nat.le_of_ble_eq_true rfl)) (show decode cJ1_charAt_3b067 3 = .ok (.invokestatic 9, 3) by decide +kernel) ⟨Nat.le_refl _, Nat.le_refl _⟩) hS ?_
  rintro r M' H1 locs1 ⟨rfl, rfl⟩ q2 q3 q4 q5
  refine lv_aload_n B.exec B.bytes (k := 0) (show decode cJ1_charAt_3b067 6 = .ok (.aload_n 0, 1) by decide +kernel) rfl (lv_at hl 0 rfl) ?_
  refine lv_iload_n B.exec B.bytes (k := 1) (show decode cJ1_charAt_3b067 7 = .ok (.iload_n 1, 1) by decide +kernel) rfl (lv_at hl 1 rfl) ?_
  refine va_tb B.exec B.bytes hT q5 (i := nI k) (v := .int ((strByt.getD i []).getD k 0)) (vp_in_nI hk (show strLen.getD i 0 < 2 ^ 31 by omega)) (by rw [nI_clamp (show k < 2 ^ 31 by have : k < strLen.getD i 0 := hk; omega)]) (show decode cJ1_charAt_3b067 8 = .ok (.baload, 1) by decide +kernel) ?_
  refine lv_sipush B.exec B.bytes (v := nI 255) (show decode cJ1_charAt_3b067 9 = .ok (.sipush 255, 3) by decide +kernel) (by decide) ?_
  refine lv_iand B.exec B.bytes (show decode cJ1_charAt_3b067 12 = .ok (.iand, 1) by decide +kernel) ?_
  refine lv_i2c B.exec B.bytes (v := nI (sB i k)) (show decode cJ1_charAt_3b067 13 = .ok (.i2c, 1) by decide +kernel) z4 ?_
  exact W.zret (v := nI (sB i k)) (ty := .char) B.exec B.bytes B.returns (nar_ch _ z5) (fun t ht hW => ⟨⟨some (vI (nI (sB i k))), M', rfl, ⟨rfl, rfl⟩, o3, fun v hv => by cases hv; trivial, by rw [ht]; exact q4⟩, q5.F ht⟩) q5.2.2 (show decode cJ1_charAt_3b067 14 = .ok (.ireturn, 1) by decide +kernel) B.notSynchronized
theorem j_coder (i : Nat) (hi : i < 8) (o3 : okMe M) : Mv E d yJ0_coder_7d493 cJ0_coder_7d493 1 (some .byte) [.ref (eA E (300 + i) 0)] M (RP (vI 0) M) := by
  refine Met.ofW (cc := cJ0_coder_7d493) (maxL := 1) (ret := some .byte) (by decide) rfl ?_
  intro p e s m args below meth c s₁ B hml hv'
  obtain ⟨rfl, hC, hP⟩ := hv'
  have hS : va_S (AA E) s.heap s.heap [] := va_S.rf
  have hts0 := atoms_spec (ws := Cond.code yJ0_coder_7d493 cJ0_coder_7d493 1 (some .byte) :: TW) B.pre
  have hts : ∀ w ∈ TW, w.before [.ref (eA E (300 + i) 0)].toArray s = true := fun w hw => hts0 w (List.mem_cons_of_mem _ hw)
  have hown : s.vm.findClass "java/lang/String" = some m.cls := findClass_of_methodNamed B.named
  have hF := (hC.2.2.2.2.1.1 i (by omega)).2.1
  rw [lg_entry_eq]
  have hl := lv_entry [.ref (eA E (300 + i) 0)] (n := 1) (Nat.le_of_ble_eq_true rfl)
  generalize (lg_sl ([.ref (eA E (300 + i) 0)]) ++ List.replicate (1 - (lg_sl ([.ref (eA E (300 + i) 0)])).length) Slot.unset).toArray = js at hl ⊢
  have hl : lv_has js 1 [(0, .ref (eA E (300 + i) 0))] := hl
  refine va_gets B.exec B.bytes hC.2.2.2.2.2.1 hS hown (hts _ js_531) (fun _ h => h) (show decode cJ0_coder_7d493 0 = .ok (.getstatic 38, 3) by decide +kernel) ?_
  refine lv_if_eq B.exec B.bytes (tgt := 13) (show decode cJ0_coder_7d493 3 = .ok (.ifCond .eq 10, 3) by decide +kernel) rfl (fun z => absurd z (by decide)) (fun _ => ?_)
  refine lv_aload_n B.exec B.bytes (k := 0) (show decode cJ0_coder_7d493 6 = .ok (.aload_n 0, 1) by decide +kernel) rfl (lv_at hl 0 rfl) ?_
  refine vk_getf B.exec B.bytes hF hS hown (hts _ js_1698) (fun _ h => h) (show decode cJ0_coder_7d493 7 = .ok (.getfield 15, 3) by decide +kernel) ?_
  refine lv_goto B.exec B.bytes (tgt := 14) (show decode cJ0_coder_7d493 10 = .ok (.goto 4, 3) by decide +kernel) rfl ?_
  exact W.zret (v := 0) (ty := .byte) B.exec B.bytes B.returns (by decide) (fun t ht hW => ⟨⟨some (vI 0), M, rfl, ⟨rfl, rfl⟩, o3, fun v hv => by cases hv; trivial, by rw [ht]; exact hP⟩, hS.F ht⟩) hS.2.2 (show decode cJ0_coder_7d493 14 = .ok (.ireturn, 1) by decide +kernel) B.notSynchronized
theorem j_isLatin1 (i : Nat) (hi : i < 8) (o3 : okMe M) : Mv E d yJ0_isLatin1_aae02 cJ0_isLatin1_aae02 1 (some .boolean) [.ref (eA E (300 + i) 0)] M (RP (vI 1) M) := by
  refine Met.ofW (cc := cJ0_isLatin1_aae02) (maxL := 1) (ret := some .boolean) (by decide) rfl ?_
  intro p e s m args below meth c s₁ B hml hv'
  obtain ⟨rfl, hC, hP⟩ := hv'
  have hS : va_S (AA E) s.heap s.heap [] := va_S.rf
  have hts0 := atoms_spec (ws := Cond.code yJ0_isLatin1_aae02 cJ0_isLatin1_aae02 1 (some .boolean) :: TW) B.pre
  have hts : ∀ w ∈ TW, w.before [.ref (eA E (300 + i) 0)].toArray s = true := fun w hw => hts0 w (List.mem_cons_of_mem _ hw)
  have hown : s.vm.findClass "java/lang/String" = some m.cls := findClass_of_methodNamed B.named
  have hF := (hC.2.2.2.2.1.1 i (by omega)).2.1
  rw [lg_entry_eq]
  have hl := lv_entry [.ref (eA E (300 + i) 0)] (n := 1) (Nat.le_of_ble_eq_true rfl)
  generalize (lg_sl ([.ref (eA E (300 + i) 0)]) ++ List.replicate (1 - (lg_sl ([.ref (eA E (300 + i) 0)])).length) Slot.unset).toArray = js at hl ⊢
  have hl : lv_has js 1 [(0, .ref (eA E (300 + i) 0))] := hl
  refine va_gets B.exec B.bytes hC.2.2.2.2.2.1 hS hown (hts _ js_531) (fun _ h => h) (show decode cJ0_isLatin1_aae02 0 = .ok (.getstatic 38, 3) by decide +kernel) ?_
  refine lv_if_eq B.exec B.bytes (tgt := 17) (show decode cJ0_isLatin1_aae02 3 = .ok (.ifCond .eq 14, 3) by decide +kernel) rfl (fun z => absurd z (by decide)) (fun _ => ?_)
  refine lv_aload_n B.exec B.bytes (k := 0) (show decode cJ0_isLatin1_aae02 6 = .ok (.aload_n 0, 1) by decide +kernel) rfl (lv_at hl 0 rfl) ?_
  refine vk_getf B.exec B.bytes hF hS hown (hts _ js_1698) (fun _ h => h) (show decode cJ0_isLatin1_aae02 7 = .ok (.getfield 15, 3) by decide +kernel) ?_
  refine lv_if_ne B.exec B.bytes (tgt := 17) (show decode cJ0_isLatin1_aae02 10 = .ok (.ifCond .ne 7, 3) by decide +kernel) rfl (fun z => absurd rfl z) (fun _ => ?_)
  refine lv_iconst B.exec B.bytes (v := 1) (show decode cJ0_isLatin1_aae02 13 = .ok (.iconst 1, 1) by decide +kernel) (by decide) ?_
  refine lv_goto B.exec B.bytes (tgt := 18) (show decode cJ0_isLatin1_aae02 14 = .ok (.goto 4, 3) by decide +kernel) rfl ?_
  exact W.zret (v := 1) (ty := .boolean) B.exec B.bytes B.returns (by decide) (fun t ht hW => ⟨⟨some (vI 1), M, rfl, ⟨rfl, rfl⟩, o3, fun v hv => by cases hv; trivial, by rw [ht]; exact hP⟩, hS.F ht⟩) hS.2.2 (show decode cJ0_isLatin1_aae02 18 = .ok (.ireturn, 1) by decide +kernel) B.notSynchronized
theorem j_length (i : Nat) (hi : i < 8) (o3 : okMe M) : Mv E (d + 1) yJ0_length_8abf5 cJ0_length_8abf5 1 (some .int) [.ref (eA E (300 + i) 0)] M (RP (vI (nI (sLn i))) M) := by
  have z1 : sLn i < 16 := by have := (sB_ok i hi).1; omega
  refine Met.ofW (cc := cJ0_length_8abf5) (maxL := 1) (ret := some .int) (by decide) rfl ?_
  intro p e s m args below meth c s₁ B hml hv'
  obtain ⟨rfl, hC, hP⟩ := hv'
  have hS : va_S (AA E) s.heap s.heap [] := va_S.rf
  have hts0 := atoms_spec (ws := Cond.code yJ0_length_8abf5 cJ0_length_8abf5 1 (some .int) :: TW) B.pre
  have hts : ∀ w ∈ TW, w.before [.ref (eA E (300 + i) 0)].toArray s = true := fun w hw => hts0 w (List.mem_cons_of_mem _ hw)
  have hown : s.vm.findClass "java/lang/String" = some m.cls := findClass_of_methodNamed B.named
  have hF := (hC.2.2.2.2.1.1 i (by omega)).2.2.1
  have hT := (hC.2.2.2.2.1.1 i (by omega)).2.2.2
  rw [lg_entry_eq]
  have hl := lv_entry [.ref (eA E (300 + i) 0)] (n := 1) (Nat.le_of_ble_eq_true rfl)
  generalize (lg_sl ([.ref (eA E (300 + i) 0)]) ++ List.replicate (1 - (lg_sl ([.ref (eA E (300 + i) 0)])).length) Slot.unset).toArray = js at hl ⊢
  have hl : lv_has js 1 [(0, .ref (eA E (300 + i) 0))] := hl
  refine lv_aload_n B.exec B.bytes (k := 0) (show decode cJ0_length_8abf5 0 = .ok (.aload_n 0, 1) by decide +kernel) rfl (lv_at hl 0 rfl) ?_
  refine vk_getf B.exec B.bytes hF hS hown (hts _ js_1697) (fun _ h => h) (show decode cJ0_length_8abf5 1 = .ok (.getfield 9, 3) by decide +kernel) ?_
  refine va_tlen B.exec B.bytes hT hS (v := nI (sLn i)) rfl (show decode cJ0_length_8abf5 4 = .ok (.arraylength, 1) by decide +kernel) ?_
  refine lv_aload_n B.exec B.bytes (k := 0) (show decode cJ0_length_8abf5 5 = .ok (.aload_n 0, 1) by decide +kernel) rfl (lv_at hl 0 rfl) ?_
  refine w_after (E := E) (Q' := RP (vI 0) M) (a := [.ref (eA E (300 + i) 0)].toArray) (rest := [.int (nI (sLn i))]) (va_runV (As := []) (C := "java/lang/String") (rest := [.int (nI (sLn i))]) ⟨B.exec, B.bytes, hml, hown, hts⟩ (j_coder E d M i hi o3) ⟨callB_of 0 hts (good_code js_530) rfl rfl rfl (hts _ js_102) (hts _ js_527) (by decide +kernel) (room_ok (Nat.lt_succ_self _) (show 1 < 40 by omega)), hts _ js_528, hts _ js_529⟩ ⟨blindv, vk_recv hC.2.2.2.2.1 (by omega) hS, pre_atv hC hP hS⟩ rfl rfl hl.1 rfl (lv_room (Nat.le_of_ble_eq_true rfl)) (show decode cJ0_length_8abf5 6 = .ok (.invokevirtual 335, 3) by decide +kernel) ⟨Nat.le_refl _, Nat.le_refl _⟩) hS ?_
  rintro r M' H1 locs1 ⟨rfl, rfl⟩ q2 q3 q4 q5
  refine lv_ishr B.exec B.bytes (show decode cJ0_length_8abf5 9 = .ok (.ishr, 1) by decide +kernel) ?_
  rw [shr0 _ z1]
  exact W.iret (v := nI (sLn i)) B.exec B.bytes B.returns (fun t ht hW => ⟨⟨some (vI (nI (sLn i))), M', rfl, ⟨rfl, rfl⟩, o3, fun v hv => by cases hv; trivial, by rw [ht]; exact q4⟩, q5.F ht⟩) q5.2.2 (show decode cJ0_length_8abf5 10 = .ok (.ireturn, 1) by decide +kernel) B.notSynchronized
theorem j_charAt (i k : Nat) (hi : i < 8) (hk : k < sLn i) (o3 : okMe M) : Mv E (d + 3) yJ0_charAt_5068e cJ0_charAt_5068e 2 (some .char) [.ref (eA E (300 + i) 0), .int (nI k)] M (RP (vI (nI (sB i k))) M) := by
  obtain ⟨z1, z2⟩ := strB_ok i hi
  obtain ⟨z3, z4, z5⟩ := z2 k hk
  refine Met.ofW (cc := cJ0_charAt_5068e) (maxL := 2) (ret := some .char) (by decide) rfl ?_
  intro p e s m args below meth c s₁ B hml hv'
  obtain ⟨rfl, hC, hP⟩ := hv'
  have hS : va_S (AA E) s.heap s.heap [] := va_S.rf
  have hts0 := atoms_spec (ws := Cond.code yJ0_charAt_5068e cJ0_charAt_5068e 2 (some .char) :: TW) B.pre
  have hts : ∀ w ∈ TW, w.before [.ref (eA E (300 + i) 0), .int (nI k)].toArray s = true := fun w hw => hts0 w (List.mem_cons_of_mem _ hw)
  have hown : s.vm.findClass "java/lang/String" = some m.cls := findClass_of_methodNamed B.named
  have hF := (hC.2.2.2.2.1.1 i (by omega)).2.2.1
  rw [lg_entry_eq]
  have hl := lv_entry [.ref (eA E (300 + i) 0), .int (nI k)] (n := 2) (Nat.le_of_ble_eq_true rfl)
  generalize (lg_sl ([.ref (eA E (300 + i) 0), .int (nI k)]) ++ List.replicate (2 - (lg_sl ([.ref (eA E (300 + i) 0), .int (nI k)])).length) Slot.unset).toArray = js at hl ⊢
  have hl : lv_has js 2 [(0, .ref (eA E (300 + i) 0)), (1, .int (nI k))] := hl
  refine lv_aload_n B.exec B.bytes (k := 0) (show decode cJ0_charAt_5068e 0 = .ok (.aload_n 0, 1) by decide +kernel) rfl (lv_at hl 0 rfl) ?_
  refine w_after (E := E) (Q' := RP (vI 1) M) (a := [.ref (eA E (300 + i) 0)].toArray) (rest := []) (va_runV (As := []) (C := "java/lang/String") (rest := []) ⟨B.exec, B.bytes, hml, hown, hts⟩ (j_isLatin1 E d M i hi o3) ⟨callB_of 0 hts (good_code js_540) rfl rfl rfl (hts _ js_102) (hts _ js_537) (by decide +kernel) (room_ok (show d < d + 3 by omega) (show 1 < 40 by omega)), hts _ js_538, hts _ js_539⟩ ⟨blindv, vk_recv hC.2.2.2.2.1 (by omega) hS, pre_atv hC hP hS⟩ rfl rfl hl.1 rfl (lv_room (Nat.le_of_ble_eq_true rfl)) (show decode cJ0_charAt_5068e 1 = .ok (.invokevirtual 492, 3) by decide +kernel) ⟨Nat.le_refl _, Nat.le_refl _⟩) hS ?_
  rintro r M' H1 locs1 ⟨rfl, rfl⟩ q2 q3 q4 q5
  refine lv_if_eq B.exec B.bytes (x := 1) (tgt := 16) (show decode cJ0_charAt_5068e 4 = .ok (.ifCond .eq 12, 3) by decide +kernel) rfl (fun z => absurd z (by decide)) (fun _ => ?_)
  refine lv_aload_n B.exec B.bytes (k := 0) (show decode cJ0_charAt_5068e 7 = .ok (.aload_n 0, 1) by decide +kernel) rfl (lv_at hl 0 rfl) ?_
  refine vk_getf B.exec B.bytes hF q5 hown (hts _ js_1697) (fun _ h => h) (show decode cJ0_charAt_5068e 8 = .ok (.getfield 9, 3) by decide +kernel) ?_
  refine lv_iload_n B.exec B.bytes (k := 1) (show decode cJ0_charAt_5068e 11 = .ok (.iload_n 1, 1) by decide +kernel) rfl (lv_at hl 1 rfl) ?_
  refine w_after (E := E) (Q' := RP (vI (nI (sB i k))) M') (a := [.ref (eV E i), .int (nI k)].toArray) (rest := []) (va_runS (As := [.ref (eV E i), .int (nI k)]) (rest := []) ⟨B.exec, B.bytes, hml, hown, hts⟩ (j_latin E d M' i k hi hk o3) ⟨callB_of 2 hts (good_code js_543) rfl rfl rfl (hts _ js_103) (hts _ js_541) (by decide +kernel) (room_ok (Nat.lt_succ_self _) (show 2 < 40 by omega)), hts _ js_542⟩ ⟨blindv, pre_atv hC q4 q5⟩ rfl rfl hl.1 rfl (lv_room (Nat.le_of_ble_eq_true rfl)) (show decode cJ0_charAt_5068e 12 = .ok (.invokestatic 495, 3) by decide +kernel) ⟨Nat.le_refl _, Nat.le_refl _⟩) q5 ?_
  rintro r M2 H2 locs2 ⟨rfl, rfl⟩ u2 u3 u4 u5
  exact W.zret (v := nI (sB i k)) (ty := .char) B.exec B.bytes B.returns (nar_ch _ z5) (fun t ht hW => ⟨⟨some (vI (nI (sB i k))), M2, rfl, ⟨rfl, rfl⟩, o3, fun v hv => by cases hv; trivial, by rw [ht]; exact u4⟩, u5.F ht⟩) u5.2.2 (show decode cJ0_charAt_5068e 15 = .ok (.ireturn, 1) by decide +kernel) B.notSynchronized
end ST2
theorem str_ok (E : EV) : StrOK E := fun d M i hi => ⟨⟨js_526, fun _ o3 => j_length E (d + 3) M i hi o3⟩, ⟨js_536, fun k hk _ o3 => j_charAt E (d + 1) M i k hi hk o3⟩⟩
