/-! the two constructors that the law calls (written by genct.py) -/
def yc_CS : MethodName := ⟨"ChannelSqueeze", "<init>", "()V"⟩
def yc_Mo : MethodName := ⟨"ChannelSqueezeModel", "<init>", "()V"⟩
theorem cw_117 : Cond.methodLink "ChannelSqueeze" 3 Lib.objectInit ∈ TW := tw_mem 117 (by decide +kernel) rfl
theorem cw_120 : Cond.classLink "ChannelSqueeze" 9 "ChannelSqueeze$Tape" ∈ TW := tw_mem 120 (by decide +kernel) rfl
theorem cw_121 : Cond.instantiable "ChannelSqueeze$Tape" 2 ∈ TW := tw_mem 121 (by decide +kernel) rfl
theorem cw_92 : Cond.initialized "ChannelSqueeze$Tape" ∈ TW := tw_mem 92 (by decide +kernel) rfl
theorem cw_122 : Cond.methodLinkNest "ChannelSqueeze" 11 yc_Tape "ChannelSqueeze" ∈ NWl := nw_in (List.mem_of_getElem? (i := 122) (by decide +kernel)) rfl
theorem cw_124 : Cond.code yc_Tape prog_10_method_1_code 1 none ∈ TW := tw_mem 124 (by decide +kernel) rfl
theorem cw_123 : Cond.instanceMethod yc_Tape ∈ TW := tw_mem 123 (by decide +kernel) rfl
theorem cw_424 : Cond.fieldLink "ChannelSqueeze" 12 "ChannelSqueeze" "tape" "LChannelSqueeze$Tape;" ∈ TW := tw_mem 424 (by decide +kernel) rfl
theorem cw_135 : Cond.classLink "ChannelSqueeze" 16 "ChannelSqueeze$Reader" ∈ TW := tw_mem 135 (by decide +kernel) rfl
theorem cw_136 : Cond.instantiable "ChannelSqueeze$Reader" 9 ∈ TW := tw_mem 136 (by decide +kernel) rfl
theorem cw_93 : Cond.initialized "ChannelSqueeze$Reader" ∈ TW := tw_mem 93 (by decide +kernel) rfl
theorem cw_137 : Cond.methodLink "ChannelSqueeze" 18 yc_Reader ∈ TW := tw_mem 137 (by decide +kernel) rfl
theorem cw_139 : Cond.code yc_Reader prog_7_method_1_code 2 none ∈ TW := tw_mem 139 (by decide +kernel) rfl
theorem cw_138 : Cond.instanceMethod yc_Reader ∈ TW := tw_mem 138 (by decide +kernel) rfl
theorem cw_425 : Cond.fieldLink "ChannelSqueeze" 21 "ChannelSqueeze" "reader" "LChannelSqueeze$Reader;" ∈ TW := tw_mem 425 (by decide +kernel) rfl
theorem cw_171 : Cond.classLink "ChannelSqueeze" 25 "ChannelSqueeze$Now" ∈ TW := tw_mem 171 (by decide +kernel) rfl
theorem cw_172 : Cond.instantiable "ChannelSqueeze$Now" 5 ∈ TW := tw_mem 172 (by decide +kernel) rfl
theorem cw_94 : Cond.initialized "ChannelSqueeze$Now" ∈ TW := tw_mem 94 (by decide +kernel) rfl
theorem cw_173 : Cond.methodLinkNest "ChannelSqueeze" 27 yc_Now "ChannelSqueeze" ∈ NWl := nw_in (List.mem_of_getElem? (i := 173) (by decide +kernel)) rfl
theorem cw_175 : Cond.code yc_Now prog_4_method_1_code 1 none ∈ TW := tw_mem 175 (by decide +kernel) rfl
theorem cw_174 : Cond.instanceMethod yc_Now ∈ TW := tw_mem 174 (by decide +kernel) rfl
theorem cw_426 : Cond.fieldLink "ChannelSqueeze" 28 "ChannelSqueeze" "now" "LChannelSqueeze$Now;" ∈ TW := tw_mem 426 (by decide +kernel) rfl
theorem cw_203 : Cond.classLink "ChannelSqueeze" 32 "ChannelSqueeze$History" ∈ TW := tw_mem 203 (by decide +kernel) rfl
theorem cw_204 : Cond.instantiable "ChannelSqueeze$History" 3 ∈ TW := tw_mem 204 (by decide +kernel) rfl
theorem cw_95 : Cond.initialized "ChannelSqueeze$History" ∈ TW := tw_mem 95 (by decide +kernel) rfl
theorem cw_205 : Cond.methodLinkNest "ChannelSqueeze" 34 yc_History "ChannelSqueeze" ∈ NWl := nw_in (List.mem_of_getElem? (i := 205) (by decide +kernel)) rfl
theorem cw_207 : Cond.code yc_History prog_2_method_1_code 1 none ∈ TW := tw_mem 207 (by decide +kernel) rfl
theorem cw_206 : Cond.instanceMethod yc_History ∈ TW := tw_mem 206 (by decide +kernel) rfl
theorem cw_427 : Cond.fieldLink "ChannelSqueeze" 35 "ChannelSqueeze" "history" "LChannelSqueeze$History;" ∈ TW := tw_mem 427 (by decide +kernel) rfl
theorem cw_222 : Cond.classLink "ChannelSqueeze" 39 "[[I" ∈ TW := tw_mem 222 (by decide +kernel) rfl
theorem cw_428 : Cond.fieldLink "ChannelSqueeze" 41 "ChannelSqueeze" "images" "[[I" ∈ TW := tw_mem 428 (by decide +kernel) rfl
theorem cw_250 : Cond.arrayClass .boolean ∈ TW := tw_mem 250 (by decide +kernel) rfl
theorem cw_429 : Cond.fieldLink "ChannelSqueeze" 44 "ChannelSqueeze" "imageIsKept" "[Z" ∈ TW := tw_mem 429 (by decide +kernel) rfl
theorem cw_223 : Cond.classLink "ChannelSqueeze" 48 "ChannelSqueeze$Packer" ∈ TW := tw_mem 223 (by decide +kernel) rfl
theorem cw_224 : Cond.instantiable "ChannelSqueeze$Packer" 6 ∈ TW := tw_mem 224 (by decide +kernel) rfl
theorem cw_96 : Cond.initialized "ChannelSqueeze$Packer" ∈ TW := tw_mem 96 (by decide +kernel) rfl
theorem cw_225 : Cond.methodLinkNest "ChannelSqueeze" 50 yc_Packer "ChannelSqueeze" ∈ NWl := nw_in (List.mem_of_getElem? (i := 225) (by decide +kernel)) rfl
theorem cw_227 : Cond.code yc_Packer prog_5_method_1_code 1 none ∈ TW := tw_mem 227 (by decide +kernel) rfl
theorem cw_226 : Cond.instanceMethod yc_Packer ∈ TW := tw_mem 226 (by decide +kernel) rfl
theorem cw_430 : Cond.fieldLink "ChannelSqueeze" 51 "ChannelSqueeze" "packer" "LChannelSqueeze$Packer;" ∈ TW := tw_mem 430 (by decide +kernel) rfl
theorem cw_251 : Cond.classLink "ChannelSqueeze" 55 "ChannelSqueeze$Market" ∈ TW := tw_mem 251 (by decide +kernel) rfl
theorem cw_252 : Cond.instantiable "ChannelSqueeze$Market" 6 ∈ TW := tw_mem 252 (by decide +kernel) rfl
theorem cw_97 : Cond.initialized "ChannelSqueeze$Market" ∈ TW := tw_mem 97 (by decide +kernel) rfl
theorem cw_253 : Cond.methodLink "ChannelSqueeze" 57 yc_Market ∈ TW := tw_mem 253 (by decide +kernel) rfl
theorem cw_255 : Cond.code yc_Market prog_3_method_1_code 2 none ∈ TW := tw_mem 255 (by decide +kernel) rfl
theorem cw_254 : Cond.instanceMethod yc_Market ∈ TW := tw_mem 254 (by decide +kernel) rfl
theorem cw_431 : Cond.fieldLink "ChannelSqueeze" 60 "ChannelSqueeze" "market" "LChannelSqueeze$Market;" ∈ TW := tw_mem 431 (by decide +kernel) rfl
theorem cw_281 : Cond.classLink "ChannelSqueeze" 64 "ChannelSqueeze$Squeezer" ∈ TW := tw_mem 281 (by decide +kernel) rfl
theorem cw_282 : Cond.instantiable "ChannelSqueeze$Squeezer" 8 ∈ TW := tw_mem 282 (by decide +kernel) rfl
theorem cw_98 : Cond.initialized "ChannelSqueeze$Squeezer" ∈ TW := tw_mem 98 (by decide +kernel) rfl
theorem cw_283 : Cond.methodLink "ChannelSqueeze" 66 yc_Squeezer ∈ TW := tw_mem 283 (by decide +kernel) rfl
theorem cw_285 : Cond.code yc_Squeezer prog_9_method_1_code 2 none ∈ TW := tw_mem 285 (by decide +kernel) rfl
theorem cw_284 : Cond.instanceMethod yc_Squeezer ∈ TW := tw_mem 284 (by decide +kernel) rfl
theorem cw_432 : Cond.fieldLink "ChannelSqueeze" 67 "ChannelSqueeze" "squeezer" "LChannelSqueeze$Squeezer;" ∈ TW := tw_mem 432 (by decide +kernel) rfl
theorem cw_318 : Cond.classLink "ChannelSqueeze" 71 "ChannelSqueeze$Plan" ∈ TW := tw_mem 318 (by decide +kernel) rfl
theorem cw_319 : Cond.instantiable "ChannelSqueeze$Plan" 11 ∈ TW := tw_mem 319 (by decide +kernel) rfl
theorem cw_99 : Cond.initialized "ChannelSqueeze$Plan" ∈ TW := tw_mem 99 (by decide +kernel) rfl
theorem cw_320 : Cond.methodLinkNest "ChannelSqueeze" 73 yc_Plan "ChannelSqueeze" ∈ NWl := nw_in (List.mem_of_getElem? (i := 320) (by decide +kernel)) rfl
theorem cw_322 : Cond.code yc_Plan prog_6_method_1_code 1 none ∈ TW := tw_mem 322 (by decide +kernel) rfl
theorem cw_321 : Cond.instanceMethod yc_Plan ∈ TW := tw_mem 321 (by decide +kernel) rfl
theorem cw_433 : Cond.fieldLink "ChannelSqueeze" 74 "ChannelSqueeze" "plan" "LChannelSqueeze$Plan;" ∈ TW := tw_mem 433 (by decide +kernel) rfl
theorem cw_434 : Cond.fieldLink "ChannelSqueeze" 78 "ChannelSqueeze" "draft" "LChannelSqueeze$Plan;" ∈ TW := tw_mem 434 (by decide +kernel) rfl
theorem cw_437 : Cond.fieldLink "ChannelSqueeze" 81 "ChannelSqueeze" "faultPlace" "I" ∈ TW := tw_mem 437 (by decide +kernel) rfl
theorem cw_1152 : Cond.methodLink "ChannelSqueezeModel" 1 Lib.objectInit ∈ TW := tw_mem 1152 (by decide +kernel) rfl
theorem cw_1155 : Cond.fieldLink "ChannelSqueezeModel" 9 "ChannelSqueezeModel" "wrongAt" "I" ∈ TW := tw_mem 1155 (by decide +kernel) rfl
theorem cw_1156 : Cond.fieldLink "ChannelSqueezeModel" 13 "ChannelSqueezeModel" "tape" "[I" ∈ TW := tw_mem 1156 (by decide +kernel) rfl
theorem cw_1167 : Cond.fieldLink "ChannelSqueezeModel" 17 "ChannelSqueezeModel" "place" "[I" ∈ TW := tw_mem 1167 (by decide +kernel) rfl
theorem cw_1168 : Cond.fieldLink "ChannelSqueezeModel" 20 "ChannelSqueezeModel" "borderSet" "[I" ∈ TW := tw_mem 1168 (by decide +kernel) rfl
theorem cw_1289 : Cond.arrayClass .long ∈ TW := tw_mem 1289 (by decide +kernel) rfl
theorem cw_1169 : Cond.fieldLink "ChannelSqueezeModel" 23 "ChannelSqueezeModel" "names" "[J" ∈ TW := tw_mem 1169 (by decide +kernel) rfl
theorem cw_1177 : Cond.fieldLink "ChannelSqueezeModel" 27 "ChannelSqueezeModel" "now" "[I" ∈ TW := tw_mem 1177 (by decide +kernel) rfl
theorem cw_1178 : Cond.fieldLink "ChannelSqueezeModel" 30 "ChannelSqueezeModel" "read" "[I" ∈ TW := tw_mem 1178 (by decide +kernel) rfl
theorem cw_1179 : Cond.fieldLink "ChannelSqueezeModel" 33 "ChannelSqueezeModel" "past" "[I" ∈ TW := tw_mem 1179 (by decide +kernel) rfl
theorem cw_1180 : Cond.fieldLink "ChannelSqueezeModel" 36 "ChannelSqueezeModel" "images" "[I" ∈ TW := tw_mem 1180 (by decide +kernel) rfl
theorem cw_1181 : Cond.fieldLink "ChannelSqueezeModel" 39 "ChannelSqueezeModel" "kept" "[Z" ∈ TW := tw_mem 1181 (by decide +kernel) rfl
theorem cw_1183 : Cond.fieldLink "ChannelSqueezeModel" 43 "ChannelSqueezeModel" "row" "[I" ∈ TW := tw_mem 1183 (by decide +kernel) rfl
theorem cw_1184 : Cond.fieldLink "ChannelSqueezeModel" 46 "ChannelSqueezeModel" "firstRow" "[I" ∈ TW := tw_mem 1184 (by decide +kernel) rfl
theorem cw_1187 : Cond.fieldLink "ChannelSqueezeModel" 49 "ChannelSqueezeModel" "paid" "[I" ∈ TW := tw_mem 1187 (by decide +kernel) rfl
theorem cw_1192 : Cond.fieldLink "ChannelSqueezeModel" 52 "ChannelSqueezeModel" "known" "[I" ∈ TW := tw_mem 1192 (by decide +kernel) rfl
theorem cw_1193 : Cond.fieldLink "ChannelSqueezeModel" 55 "ChannelSqueezeModel" "best" "[I" ∈ TW := tw_mem 1193 (by decide +kernel) rfl
theorem cw_1195 : Cond.fieldLink "ChannelSqueezeModel" 58 "ChannelSqueezeModel" "goes" "[I" ∈ TW := tw_mem 1195 (by decide +kernel) rfl
theorem cw_1196 : Cond.fieldLink "ChannelSqueezeModel" 61 "ChannelSqueezeModel" "then" "[I" ∈ TW := tw_mem 1196 (by decide +kernel) rfl
theorem cw_1197 : Cond.fieldLink "ChannelSqueezeModel" 64 "ChannelSqueezeModel" "aside" "[I" ∈ TW := tw_mem 1197 (by decide +kernel) rfl
def rc_CS (E : EV) (a : Nat)  : va_W := (a, .inr (9, ((((((((((((nl 9).set 0 (.ref (a + 1))).set 1 (.ref (a + 3))).set 2 (.ref (a + 4))).set 3 (.ref (a + 8))).set 4 (.ref (a + 20))).set 5 (.ref (a + 23))).set 6 (.ref (a + 24))).set 7 (.ref (a + 39))).set 8 (.ref (a + 41))).set 9 (.ref (a + 45))).set 10 (.ref (a + 72))).set 13 (.int (-(nI 1))))) :: ([] ++ rc_Tape E (a + 1) ++ rc_Reader E (a + 3) (a + 1) ++ rc_Now E (a + 4) ++ rc_History E (a + 8) ++ rowsW E (a + 20) 2 26 ++ [(a + 23, .inl (eZ E, (2, .inl fun _ => 0)))] ++ rc_Packer E (a + 24) ++ rc_Market E (a + 39) (a + 24) ++ rc_Squeezer E (a + 41) (a + 24) ++ rc_Plan E (a + 45) ++ rc_Plan E (a + 72))
theorem ct_CS (E : EV) (a : Nat)  : CtM E yc_CS prog_1_method_1_code 1 [] a 9 98 (rc_CS E a) 4432 3 := by
  refine ct_of (by decide) rfl rfl ?_
  intro p e s mid below meth c js X hj
  have hl : lv_has js 1 [(0, .ref a)] := by rw [hj]; exact lv_entry [.ref a] (n := 1) (Nat.le_of_ble_eq_true rfl)
  have hjs : js.size = 1 := hl.1
  have hj0 := lv_at hl 0 rfl
  clear hj
  refine j_aload X (k := 0) (by decide +kernel) hj0 ?_
  refine j_obj X hjs cw_117 (by decide +kernel) (Nat.le_of_ble_eq_true rfl) (Nat.le_of_ble_eq_true rfl) ?_
  refine j_aload X (k := 0) (by decide +kernel) hj0 ?_
  refine j_new X (cj := 8) (by decide) cw_120 cw_121 cw_92 (Nat.le_of_ble_eq_true rfl) (Nat.le_of_ble_eq_true rfl) (by decide +kernel) ?_
  refine j_dup X (by decide +kernel) ?_
  refine j_callN X hjs (na := 0) (As := []) (ct_Tape E (a + 1)) cw_122 cw_124 cw_92 cw_123 rfl rfl (by decide +kernel) ⟨(Nat.le_of_ble_eq_true rfl), (Nat.le_of_ble_eq_true rfl)⟩ (Nat.le_of_ble_eq_true rfl) (Nat.le_of_ble_eq_true rfl) (Nat.le_of_ble_eq_true rfl) (by decide +kernel) ?_
  refine j_put X (k := 0) (ix := 12) (v := .ref (a + 1)) (by decide) (by decide) (by simp only [List.length_set, nl_len]) rfl cw_424 rfl rfl (by decide +kernel) ?_
  refine j_aload X (k := 0) (by decide +kernel) hj0 ?_
  refine j_new X (cj := 5) (by decide) cw_135 cw_136 cw_93 (Nat.le_of_ble_eq_true rfl) (Nat.le_of_ble_eq_true rfl) (by decide +kernel) ?_
  refine j_dup X (by decide +kernel) ?_
  refine j_aload X (k := 0) (by decide +kernel) hj0 ?_
  refine j_get X (k := 0) (ix := 12) (v := .ref (a + 1)) rfl (by decide) (by decide) rfl cw_424 rfl (by decide +kernel) ?_
  refine j_callP X hjs (na := 1) (As := [.ref (a + 1)]) (ct_Reader E (a + 3) (a + 1)) cw_137 cw_139 cw_93 cw_138 rfl rfl (by decide +kernel) ⟨(Nat.le_of_ble_eq_true rfl), (Nat.le_of_ble_eq_true rfl)⟩ (Nat.le_of_ble_eq_true rfl) (Nat.le_of_ble_eq_true rfl) (Nat.le_of_ble_eq_true rfl) (by decide +kernel) ?_
  refine j_put X (k := 1) (ix := 21) (v := .ref (a + 3)) (by decide) (by decide) (by simp only [List.length_set, nl_len]) rfl cw_425 rfl rfl (by decide +kernel) ?_
  refine j_aload X (k := 0) (by decide +kernel) hj0 ?_
  refine j_new X (cj := 2) (by decide) cw_171 cw_172 cw_94 (Nat.le_of_ble_eq_true rfl) (Nat.le_of_ble_eq_true rfl) (by decide +kernel) ?_
  refine j_dup X (by decide +kernel) ?_
  refine j_callN X hjs (na := 0) (As := []) (ct_Now E (a + 4)) cw_173 cw_175 cw_94 cw_174 rfl rfl (by decide +kernel) ⟨(Nat.le_of_ble_eq_true rfl), (Nat.le_of_ble_eq_true rfl)⟩ (Nat.le_of_ble_eq_true rfl) (Nat.le_of_ble_eq_true rfl) (Nat.le_of_ble_eq_true rfl) (by decide +kernel) ?_
  refine j_put X (k := 2) (ix := 28) (v := .ref (a + 4)) (by decide) (by decide) (by simp only [List.length_set, nl_len]) rfl cw_426 rfl rfl (by decide +kernel) ?_
  refine j_aload X (k := 0) (by decide +kernel) hj0 ?_
  refine j_new X (cj := 0) (by decide) cw_203 cw_204 cw_95 (Nat.le_of_ble_eq_true rfl) (Nat.le_of_ble_eq_true rfl) (by decide +kernel) ?_
  refine j_dup X (by decide +kernel) ?_
  refine j_callN X hjs (na := 0) (As := []) (ct_History E (a + 8)) cw_205 cw_207 cw_95 cw_206 rfl rfl (by decide +kernel) ⟨(Nat.le_of_ble_eq_true rfl), (Nat.le_of_ble_eq_true rfl)⟩ (Nat.le_of_ble_eq_true rfl) (Nat.le_of_ble_eq_true rfl) (Nat.le_of_ble_eq_true rfl) (by decide +kernel) ?_
  refine j_put X (k := 3) (ix := 35) (v := .ref (a + 8)) (by decide) (by decide) (by simp only [List.length_set, nl_len]) rfl cw_427 rfl rfl (by decide +kernel) ?_
  refine j_aload X (k := 0) (by decide +kernel) hj0 ?_
  refine j_iconst X (v := 2) (x := nI 2) (by decide +kernel) (by decide) ?_
  refine j_bipush X (v := 26) (x := nI 26) (by decide +kernel) (by decide) ?_
  refine j_multi X (N := 2) (M := 26) (x := nI 2) (y := nI 26) cw_222 (by decide) (by decide) (by decide) (by decide) (Nat.le_of_ble_eq_true rfl) (Nat.le_of_ble_eq_true rfl) (Nat.le_of_ble_eq_true rfl) (Nat.le_of_ble_eq_true rfl) (by decide +kernel) ?_
  refine j_put X (k := 4) (ix := 41) (v := .ref (a + 20)) (by decide) (by decide) (by simp only [List.length_set, nl_len]) rfl cw_428 rfl rfl (by decide +kernel) ?_
  refine j_aload X (k := 0) (by decide +kernel) hj0 ?_
  refine j_iconst X (v := 2) (x := nI 2) (by decide +kernel) (by decide) ?_
  refine j_newa X (x := nI 2) (N := 2) (t0 := 2) (cA := eZ E) (ty := .boolean) (atype := .boolean) (a1 := (2, .inl fun _ => 0)) rfl cw_250 rfl rfl (fun _ h => h) (by decide) (by decide) (by decide) (Nat.le_of_ble_eq_true rfl) (Nat.le_of_ble_eq_true rfl) (by decide +kernel) ?_
  refine j_put X (k := 5) (ix := 44) (v := .ref (a + 23)) (by decide) (by decide) (by simp only [List.length_set, nl_len]) rfl cw_429 rfl rfl (by decide +kernel) ?_
  refine j_aload X (k := 0) (by decide +kernel) hj0 ?_
  refine j_new X (cj := 3) (by decide) cw_223 cw_224 cw_96 (Nat.le_of_ble_eq_true rfl) (Nat.le_of_ble_eq_true rfl) (by decide +kernel) ?_
  refine j_dup X (by decide +kernel) ?_
  refine j_callN X hjs (na := 0) (As := []) (ct_Packer E (a + 24)) cw_225 cw_227 cw_96 cw_226 rfl rfl (by decide +kernel) ⟨(Nat.le_of_ble_eq_true rfl), (Nat.le_of_ble_eq_true rfl)⟩ (Nat.le_of_ble_eq_true rfl) (Nat.le_of_ble_eq_true rfl) (Nat.le_of_ble_eq_true rfl) (by decide +kernel) ?_
  refine j_put X (k := 6) (ix := 51) (v := .ref (a + 24)) (by decide) (by decide) (by simp only [List.length_set, nl_len]) rfl cw_430 rfl rfl (by decide +kernel) ?_
  refine j_aload X (k := 0) (by decide +kernel) hj0 ?_
  refine j_new X (cj := 1) (by decide) cw_251 cw_252 cw_97 (Nat.le_of_ble_eq_true rfl) (Nat.le_of_ble_eq_true rfl) (by decide +kernel) ?_
  refine j_dup X (by decide +kernel) ?_
  refine j_aload X (k := 0) (by decide +kernel) hj0 ?_
  refine j_get X (k := 6) (ix := 51) (v := .ref (a + 24)) rfl (by decide) (by decide) rfl cw_430 rfl (by decide +kernel) ?_
  refine j_callP X hjs (na := 1) (As := [.ref (a + 24)]) (ct_Market E (a + 39) (a + 24)) cw_253 cw_255 cw_97 cw_254 rfl rfl (by decide +kernel) ⟨(Nat.le_of_ble_eq_true rfl), (Nat.le_of_ble_eq_true rfl)⟩ (Nat.le_of_ble_eq_true rfl) (Nat.le_of_ble_eq_true rfl) (Nat.le_of_ble_eq_true rfl) (by decide +kernel) ?_
  refine j_put X (k := 7) (ix := 60) (v := .ref (a + 39)) (by decide) (by decide) (by simp only [List.length_set, nl_len]) rfl cw_431 rfl rfl (by decide +kernel) ?_
  refine j_aload X (k := 0) (by decide +kernel) hj0 ?_
  refine j_new X (cj := 7) (by decide) cw_281 cw_282 cw_98 (Nat.le_of_ble_eq_true rfl) (Nat.le_of_ble_eq_true rfl) (by decide +kernel) ?_
  refine j_dup X (by decide +kernel) ?_
  refine j_aload X (k := 0) (by decide +kernel) hj0 ?_
  refine j_get X (k := 6) (ix := 51) (v := .ref (a + 24)) rfl (by decide) (by decide) rfl cw_430 rfl (by decide +kernel) ?_
  refine j_callP X hjs (na := 1) (As := [.ref (a + 24)]) (ct_Squeezer E (a + 41) (a + 24)) cw_283 cw_285 cw_98 cw_284 rfl rfl (by decide +kernel) ⟨(Nat.le_of_ble_eq_true rfl), (Nat.le_of_ble_eq_true rfl)⟩ (Nat.le_of_ble_eq_true rfl) (Nat.le_of_ble_eq_true rfl) (Nat.le_of_ble_eq_true rfl) (by decide +kernel) ?_
  refine j_put X (k := 8) (ix := 67) (v := .ref (a + 41)) (by decide) (by decide) (by simp only [List.length_set, nl_len]) rfl cw_432 rfl rfl (by decide +kernel) ?_
  refine j_aload X (k := 0) (by decide +kernel) hj0 ?_
  refine j_new X (cj := 4) (by decide) cw_318 cw_319 cw_99 (Nat.le_of_ble_eq_true rfl) (Nat.le_of_ble_eq_true rfl) (by decide +kernel) ?_
  refine j_dup X (by decide +kernel) ?_
  refine j_callN X hjs (na := 0) (As := []) (ct_Plan E (a + 45)) cw_320 cw_322 cw_99 cw_321 rfl rfl (by decide +kernel) ⟨(Nat.le_of_ble_eq_true rfl), (Nat.le_of_ble_eq_true rfl)⟩ (Nat.le_of_ble_eq_true rfl) (Nat.le_of_ble_eq_true rfl) (Nat.le_of_ble_eq_true rfl) (by decide +kernel) ?_
  refine j_put X (k := 9) (ix := 74) (v := .ref (a + 45)) (by decide) (by decide) (by simp only [List.length_set, nl_len]) rfl cw_433 rfl rfl (by decide +kernel) ?_
  refine j_aload X (k := 0) (by decide +kernel) hj0 ?_
  refine j_new X (cj := 4) (by decide) cw_318 cw_319 cw_99 (Nat.le_of_ble_eq_true rfl) (Nat.le_of_ble_eq_true rfl) (by decide +kernel) ?_
  refine j_dup X (by decide +kernel) ?_
  refine j_callN X hjs (na := 0) (As := []) (ct_Plan E (a + 72)) cw_320 cw_322 cw_99 cw_321 rfl rfl (by decide +kernel) ⟨(Nat.le_of_ble_eq_true rfl), (Nat.le_of_ble_eq_true rfl)⟩ (Nat.le_of_ble_eq_true rfl) (Nat.le_of_ble_eq_true rfl) (Nat.le_of_ble_eq_true rfl) (by decide +kernel) ?_
  refine j_put X (k := 10) (ix := 78) (v := .ref (a + 72)) (by decide) (by decide) (by simp only [List.length_set, nl_len]) rfl cw_434 rfl rfl (by decide +kernel) ?_
  refine j_aload X (k := 0) (by decide +kernel) hj0 ?_
  refine j_iconst X (v := -1) (x := -(nI 1)) (by decide +kernel) (by decide) ?_
  refine j_put X (k := 13) (ix := 81) (v := .int (-(nI 1))) (by decide) (by decide) (by simp only [List.length_set, nl_len]) rfl cw_437 rfl rfl (by decide +kernel) ?_
  exact j_ret X (by decide +kernel)
def rc_Mo (E : EV) (a : Nat)  : va_W := (a, .inr (10, ((((((((((((((((((nl 10).set 2 (.int (-(nI 1)))).set 3 (.ref (a + 1))).set 14 (.ref (a + 2))).set 15 (.ref (a + 3))).set 16 (.ref (a + 4))).set 24 (.ref (a + 5))).set 25 (.ref (a + 6))).set 26 (.ref (a + 7))).set 27 (.ref (a + 8))).set 28 (.ref (a + 9))).set 30 (.ref (a + 10))).set 31 (.ref (a + 11))).set 34 (.ref (a + 12))).set 39 (.ref (a + 13))).set 40 (.ref (a + 14))).set 42 (.ref (a + 15))).set 43 (.ref (a + 16))).set 44 (.ref (a + 17)))) :: ([] ++ [(a + 1, .inl (eI E, (700, .inl fun _ => 0)))] ++ [(a + 2, .inl (eI E, (72, .inl fun _ => 0)))] ++ [(a + 3, .inl (eI E, (8, .inl fun _ => 0)))] ++ [(a + 4, .inl (eJ E, (16, .inr (.inl fun _ => 0))))] ++ [(a + 5, .inl (eI E, (26, .inl fun _ => 0)))] ++ [(a + 6, .inl (eI E, (26, .inl fun _ => 0)))] ++ [(a + 7, .inl (eI E, (260, .inl fun _ => 0)))] ++ [(a + 8, .inl (eI E, (52, .inl fun _ => 0)))] ++ [(a + 9, .inl (eZ E, (2, .inl fun _ => 0)))] ++ [(a + 10, .inl (eI E, (8, .inl fun _ => 0)))] ++ [(a + 11, .inl (eI E, (8, .inl fun _ => 0)))] ++ [(a + 12, .inl (eI E, (8, .inl fun _ => 0)))] ++ [(a + 13, .inl (eI E, (256, .inl fun _ => 0)))] ++ [(a + 14, .inl (eI E, (8, .inl fun _ => 0)))] ++ [(a + 15, .inl (eI E, (8, .inl fun _ => 0)))] ++ [(a + 16, .inl (eI E, (8, .inl fun _ => 0)))] ++ [(a + 17, .inl (eI E, (8, .inl fun _ => 0)))])
theorem ct_Mo (E : EV) (a : Nat)  : CtM E yc_Mo prog_12_method_1_code 1 [] a 10 17 (rc_Mo E a) 1474 1 := by
  refine ct_of (by decide) rfl rfl ?_
  intro p e s mid below meth c js X hj
  have hl : lv_has js 1 [(0, .ref a)] := by rw [hj]; exact lv_entry [.ref a] (n := 1) (Nat.le_of_ble_eq_true rfl)
  have hjs : js.size = 1 := hl.1
  have hj0 := lv_at hl 0 rfl
  clear hj
  refine j_aload X (k := 0) (by decide +kernel) hj0 ?_
  refine j_obj X hjs cw_1152 (by decide +kernel) (Nat.le_of_ble_eq_true rfl) (Nat.le_of_ble_eq_true rfl) ?_
  refine j_aload X (k := 0) (by decide +kernel) hj0 ?_
  refine j_iconst X (v := -1) (x := -(nI 1)) (by decide +kernel) (by decide) ?_
  refine j_put X (k := 2) (ix := 9) (v := .int (-(nI 1))) (by decide) (by decide) (by simp only [List.length_set, nl_len]) rfl cw_1155 rfl rfl (by decide +kernel) ?_
  refine j_aload X (k := 0) (by decide +kernel) hj0 ?_
  refine j_sipush X (v := 700) (x := nI 700) (by decide +kernel) (by decide) ?_
  refine j_newa X (x := nI 700) (N := 700) (t0 := 0) (cA := eI E) (ty := .int) (atype := .int) (a1 := (700, .inl fun _ => 0)) rfl cw_202 rfl rfl (fun _ h => h) (by decide) (by decide) (by decide) (Nat.le_of_ble_eq_true rfl) (Nat.le_of_ble_eq_true rfl) (by decide +kernel) ?_
  refine j_put X (k := 3) (ix := 13) (v := .ref (a + 1)) (by decide) (by decide) (by simp only [List.length_set, nl_len]) rfl cw_1156 rfl rfl (by decide +kernel) ?_
  refine j_aload X (k := 0) (by decide +kernel) hj0 ?_
  refine j_bipush X (v := 72) (x := nI 72) (by decide +kernel) (by decide) ?_
  refine j_newa X (x := nI 72) (N := 72) (t0 := 0) (cA := eI E) (ty := .int) (atype := .int) (a1 := (72, .inl fun _ => 0)) rfl cw_202 rfl rfl (fun _ h => h) (by decide) (by decide) (by decide) (Nat.le_of_ble_eq_true rfl) (Nat.le_of_ble_eq_true rfl) (by decide +kernel) ?_
  refine j_put X (k := 14) (ix := 17) (v := .ref (a + 2)) (by decide) (by decide) (by simp only [List.length_set, nl_len]) rfl cw_1167 rfl rfl (by decide +kernel) ?_
  refine j_aload X (k := 0) (by decide +kernel) hj0 ?_
  refine j_bipush X (v := 8) (x := nI 8) (by decide +kernel) (by decide) ?_
  refine j_newa X (x := nI 8) (N := 8) (t0 := 0) (cA := eI E) (ty := .int) (atype := .int) (a1 := (8, .inl fun _ => 0)) rfl cw_202 rfl rfl (fun _ h => h) (by decide) (by decide) (by decide) (Nat.le_of_ble_eq_true rfl) (Nat.le_of_ble_eq_true rfl) (by decide +kernel) ?_
  refine j_put X (k := 15) (ix := 20) (v := .ref (a + 3)) (by decide) (by decide) (by simp only [List.length_set, nl_len]) rfl cw_1168 rfl rfl (by decide +kernel) ?_
  refine j_aload X (k := 0) (by decide +kernel) hj0 ?_
  refine j_bipush X (v := 16) (x := nI 16) (by decide +kernel) (by decide) ?_
  refine j_newa X (x := nI 16) (N := 16) (t0 := 3) (cA := eJ E) (ty := .long) (atype := .long) (a1 := (16, .inr (.inl fun _ => 0))) rfl cw_1289 rfl rfl (fun _ h => h) (by decide) (by decide) (by decide) (Nat.le_of_ble_eq_true rfl) (Nat.le_of_ble_eq_true rfl) (by decide +kernel) ?_
  refine j_put X (k := 16) (ix := 23) (v := .ref (a + 4)) (by decide) (by decide) (by simp only [List.length_set, nl_len]) rfl cw_1169 rfl rfl (by decide +kernel) ?_
  refine j_aload X (k := 0) (by decide +kernel) hj0 ?_
  refine j_bipush X (v := 26) (x := nI 26) (by decide +kernel) (by decide) ?_
  refine j_newa X (x := nI 26) (N := 26) (t0 := 0) (cA := eI E) (ty := .int) (atype := .int) (a1 := (26, .inl fun _ => 0)) rfl cw_202 rfl rfl (fun _ h => h) (by decide) (by decide) (by decide) (Nat.le_of_ble_eq_true rfl) (Nat.le_of_ble_eq_true rfl) (by decide +kernel) ?_
  refine j_put X (k := 24) (ix := 27) (v := .ref (a + 5)) (by decide) (by decide) (by simp only [List.length_set, nl_len]) rfl cw_1177 rfl rfl (by decide +kernel) ?_
  refine j_aload X (k := 0) (by decide +kernel) hj0 ?_
  refine j_bipush X (v := 26) (x := nI 26) (by decide +kernel) (by decide) ?_
  refine j_newa X (x := nI 26) (N := 26) (t0 := 0) (cA := eI E) (ty := .int) (atype := .int) (a1 := (26, .inl fun _ => 0)) rfl cw_202 rfl rfl (fun _ h => h) (by decide) (by decide) (by decide) (Nat.le_of_ble_eq_true rfl) (Nat.le_of_ble_eq_true rfl) (by decide +kernel) ?_
  refine j_put X (k := 25) (ix := 30) (v := .ref (a + 6)) (by decide) (by decide) (by simp only [List.length_set, nl_len]) rfl cw_1178 rfl rfl (by decide +kernel) ?_
  refine j_aload X (k := 0) (by decide +kernel) hj0 ?_
  refine j_sipush X (v := 260) (x := nI 260) (by decide +kernel) (by decide) ?_
  refine j_newa X (x := nI 260) (N := 260) (t0 := 0) (cA := eI E) (ty := .int) (atype := .int) (a1 := (260, .inl fun _ => 0)) rfl cw_202 rfl rfl (fun _ h => h) (by decide) (by decide) (by decide) (Nat.le_of_ble_eq_true rfl) (Nat.le_of_ble_eq_true rfl) (by decide +kernel) ?_
  refine j_put X (k := 26) (ix := 33) (v := .ref (a + 7)) (by decide) (by decide) (by simp only [List.length_set, nl_len]) rfl cw_1179 rfl rfl (by decide +kernel) ?_
  refine j_aload X (k := 0) (by decide +kernel) hj0 ?_
  refine j_bipush X (v := 52) (x := nI 52) (by decide +kernel) (by decide) ?_
  refine j_newa X (x := nI 52) (N := 52) (t0 := 0) (cA := eI E) (ty := .int) (atype := .int) (a1 := (52, .inl fun _ => 0)) rfl cw_202 rfl rfl (fun _ h => h) (by decide) (by decide) (by decide) (Nat.le_of_ble_eq_true rfl) (Nat.le_of_ble_eq_true rfl) (by decide +kernel) ?_
  refine j_put X (k := 27) (ix := 36) (v := .ref (a + 8)) (by decide) (by decide) (by simp only [List.length_set, nl_len]) rfl cw_1180 rfl rfl (by decide +kernel) ?_
  refine j_aload X (k := 0) (by decide +kernel) hj0 ?_
  refine j_iconst X (v := 2) (x := nI 2) (by decide +kernel) (by decide) ?_
  refine j_newa X (x := nI 2) (N := 2) (t0 := 2) (cA := eZ E) (ty := .boolean) (atype := .boolean) (a1 := (2, .inl fun _ => 0)) rfl cw_250 rfl rfl (fun _ h => h) (by decide) (by decide) (by decide) (Nat.le_of_ble_eq_true rfl) (Nat.le_of_ble_eq_true rfl) (by decide +kernel) ?_
  refine j_put X (k := 28) (ix := 39) (v := .ref (a + 9)) (by decide) (by decide) (by simp only [List.length_set, nl_len]) rfl cw_1181 rfl rfl (by decide +kernel) ?_
  refine j_aload X (k := 0) (by decide +kernel) hj0 ?_
  refine j_bipush X (v := 8) (x := nI 8) (by decide +kernel) (by decide) ?_
  refine j_newa X (x := nI 8) (N := 8) (t0 := 0) (cA := eI E) (ty := .int) (atype := .int) (a1 := (8, .inl fun _ => 0)) rfl cw_202 rfl rfl (fun _ h => h) (by decide) (by decide) (by decide) (Nat.le_of_ble_eq_true rfl) (Nat.le_of_ble_eq_true rfl) (by decide +kernel) ?_
  refine j_put X (k := 30) (ix := 43) (v := .ref (a + 10)) (by decide) (by decide) (by simp only [List.length_set, nl_len]) rfl cw_1183 rfl rfl (by decide +kernel) ?_
  refine j_aload X (k := 0) (by decide +kernel) hj0 ?_
  refine j_bipush X (v := 8) (x := nI 8) (by decide +kernel) (by decide) ?_
  refine j_newa X (x := nI 8) (N := 8) (t0 := 0) (cA := eI E) (ty := .int) (atype := .int) (a1 := (8, .inl fun _ => 0)) rfl cw_202 rfl rfl (fun _ h => h) (by decide) (by decide) (by decide) (Nat.le_of_ble_eq_true rfl) (Nat.le_of_ble_eq_true rfl) (by decide +kernel) ?_
  refine j_put X (k := 31) (ix := 46) (v := .ref (a + 11)) (by decide) (by decide) (by simp only [List.length_set, nl_len]) rfl cw_1184 rfl rfl (by decide +kernel) ?_
  refine j_aload X (k := 0) (by decide +kernel) hj0 ?_
  refine j_bipush X (v := 8) (x := nI 8) (by decide +kernel) (by decide) ?_
  refine j_newa X (x := nI 8) (N := 8) (t0 := 0) (cA := eI E) (ty := .int) (atype := .int) (a1 := (8, .inl fun _ => 0)) rfl cw_202 rfl rfl (fun _ h => h) (by decide) (by decide) (by decide) (Nat.le_of_ble_eq_true rfl) (Nat.le_of_ble_eq_true rfl) (by decide +kernel) ?_
  refine j_put X (k := 34) (ix := 49) (v := .ref (a + 12)) (by decide) (by decide) (by simp only [List.length_set, nl_len]) rfl cw_1187 rfl rfl (by decide +kernel) ?_
  refine j_aload X (k := 0) (by decide +kernel) hj0 ?_
  refine j_sipush X (v := 256) (x := nI 256) (by decide +kernel) (by decide) ?_
  refine j_newa X (x := nI 256) (N := 256) (t0 := 0) (cA := eI E) (ty := .int) (atype := .int) (a1 := (256, .inl fun _ => 0)) rfl cw_202 rfl rfl (fun _ h => h) (by decide) (by decide) (by decide) (Nat.le_of_ble_eq_true rfl) (Nat.le_of_ble_eq_true rfl) (by decide +kernel) ?_
  refine j_put X (k := 39) (ix := 52) (v := .ref (a + 13)) (by decide) (by decide) (by simp only [List.length_set, nl_len]) rfl cw_1192 rfl rfl (by decide +kernel) ?_
  refine j_aload X (k := 0) (by decide +kernel) hj0 ?_
  refine j_bipush X (v := 8) (x := nI 8) (by decide +kernel) (by decide) ?_
  refine j_newa X (x := nI 8) (N := 8) (t0 := 0) (cA := eI E) (ty := .int) (atype := .int) (a1 := (8, .inl fun _ => 0)) rfl cw_202 rfl rfl (fun _ h => h) (by decide) (by decide) (by decide) (Nat.le_of_ble_eq_true rfl) (Nat.le_of_ble_eq_true rfl) (by decide +kernel) ?_
  refine j_put X (k := 40) (ix := 55) (v := .ref (a + 14)) (by decide) (by decide) (by simp only [List.length_set, nl_len]) rfl cw_1193 rfl rfl (by decide +kernel) ?_
  refine j_aload X (k := 0) (by decide +kernel) hj0 ?_
  refine j_bipush X (v := 8) (x := nI 8) (by decide +kernel) (by decide) ?_
  refine j_newa X (x := nI 8) (N := 8) (t0 := 0) (cA := eI E) (ty := .int) (atype := .int) (a1 := (8, .inl fun _ => 0)) rfl cw_202 rfl rfl (fun _ h => h) (by decide) (by decide) (by decide) (Nat.le_of_ble_eq_true rfl) (Nat.le_of_ble_eq_true rfl) (by decide +kernel) ?_
  refine j_put X (k := 42) (ix := 58) (v := .ref (a + 15)) (by decide) (by decide) (by simp only [List.length_set, nl_len]) rfl cw_1195 rfl rfl (by decide +kernel) ?_
  refine j_aload X (k := 0) (by decide +kernel) hj0 ?_
  refine j_bipush X (v := 8) (x := nI 8) (by decide +kernel) (by decide) ?_
  refine j_newa X (x := nI 8) (N := 8) (t0 := 0) (cA := eI E) (ty := .int) (atype := .int) (a1 := (8, .inl fun _ => 0)) rfl cw_202 rfl rfl (fun _ h => h) (by decide) (by decide) (by decide) (Nat.le_of_ble_eq_true rfl) (Nat.le_of_ble_eq_true rfl) (by decide +kernel) ?_
  refine j_put X (k := 43) (ix := 61) (v := .ref (a + 16)) (by decide) (by decide) (by simp only [List.length_set, nl_len]) rfl cw_1196 rfl rfl (by decide +kernel) ?_
  refine j_aload X (k := 0) (by decide +kernel) hj0 ?_
  refine j_bipush X (v := 8) (x := nI 8) (by decide +kernel) (by decide) ?_
  refine j_newa X (x := nI 8) (N := 8) (t0 := 0) (cA := eI E) (ty := .int) (atype := .int) (a1 := (8, .inl fun _ => 0)) rfl cw_202 rfl rfl (fun _ h => h) (by decide) (by decide) (by decide) (Nat.le_of_ble_eq_true rfl) (Nat.le_of_ble_eq_true rfl) (by decide +kernel) ?_
  refine j_put X (k := 44) (ix := 64) (v := .ref (a + 17)) (by decide) (by decide) (by simp only [List.length_set, nl_len]) rfl cw_1197 rfl rfl (by decide +kernel) ?_
  exact j_ret X (by decide +kernel)
