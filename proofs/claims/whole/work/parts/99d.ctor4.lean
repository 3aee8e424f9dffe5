/-! the two constructors that the law calls (written by genct.py) -/
def yc_CS : MethodName := ⟨"ChannelSqueeze", "<init>", "()V"⟩
def yc_Mo : MethodName := ⟨"ChannelSqueezeModel", "<init>", "()V"⟩
theorem cw_118 : Cond.methodLink "ChannelSqueeze" 3 Lib.objectInit ∈ TW := tw_mem 118 (by decide +kernel) rfl
theorem cw_121 : Cond.classLink "ChannelSqueeze" 9 "ChannelSqueeze$Tape" ∈ TW := tw_mem 121 (by decide +kernel) rfl
theorem cw_122 : Cond.instantiable "ChannelSqueeze$Tape" 2 ∈ TW := tw_mem 122 (by decide +kernel) rfl
theorem cw_93 : Cond.initialized "ChannelSqueeze$Tape" ∈ TW := tw_mem 93 (by decide +kernel) rfl
theorem cw_123 : Cond.methodLinkNest "ChannelSqueeze" 11 yc_Tape "ChannelSqueeze" ∈ NWl := nw_in (List.mem_of_getElem? (i := 123) (by decide +kernel)) rfl
theorem cw_125 : Cond.code yc_Tape prog_10_method_1_code 1 none ∈ TW := tw_mem 125 (by decide +kernel) rfl
theorem cw_124 : Cond.instanceMethod yc_Tape ∈ TW := tw_mem 124 (by decide +kernel) rfl
theorem cw_433 : Cond.fieldLink "ChannelSqueeze" 12 "ChannelSqueeze" "tape" "LChannelSqueeze$Tape;" ∈ TW := tw_mem 433 (by decide +kernel) rfl
theorem cw_136 : Cond.classLink "ChannelSqueeze" 16 "ChannelSqueeze$Reader" ∈ TW := tw_mem 136 (by decide +kernel) rfl
theorem cw_137 : Cond.instantiable "ChannelSqueeze$Reader" 9 ∈ TW := tw_mem 137 (by decide +kernel) rfl
theorem cw_94 : Cond.initialized "ChannelSqueeze$Reader" ∈ TW := tw_mem 94 (by decide +kernel) rfl
theorem cw_138 : Cond.methodLink "ChannelSqueeze" 18 yc_Reader ∈ TW := tw_mem 138 (by decide +kernel) rfl
theorem cw_140 : Cond.code yc_Reader prog_7_method_1_code 2 none ∈ TW := tw_mem 140 (by decide +kernel) rfl
theorem cw_139 : Cond.instanceMethod yc_Reader ∈ TW := tw_mem 139 (by decide +kernel) rfl
theorem cw_434 : Cond.fieldLink "ChannelSqueeze" 21 "ChannelSqueeze" "reader" "LChannelSqueeze$Reader;" ∈ TW := tw_mem 434 (by decide +kernel) rfl
theorem cw_172 : Cond.classLink "ChannelSqueeze" 25 "ChannelSqueeze$Now" ∈ TW := tw_mem 172 (by decide +kernel) rfl
theorem cw_173 : Cond.instantiable "ChannelSqueeze$Now" 5 ∈ TW := tw_mem 173 (by decide +kernel) rfl
theorem cw_95 : Cond.initialized "ChannelSqueeze$Now" ∈ TW := tw_mem 95 (by decide +kernel) rfl
theorem cw_174 : Cond.methodLinkNest "ChannelSqueeze" 27 yc_Now "ChannelSqueeze" ∈ NWl := nw_in (List.mem_of_getElem? (i := 174) (by decide +kernel)) rfl
theorem cw_176 : Cond.code yc_Now prog_4_method_1_code 1 none ∈ TW := tw_mem 176 (by decide +kernel) rfl
theorem cw_175 : Cond.instanceMethod yc_Now ∈ TW := tw_mem 175 (by decide +kernel) rfl
theorem cw_435 : Cond.fieldLink "ChannelSqueeze" 28 "ChannelSqueeze" "now" "LChannelSqueeze$Now;" ∈ TW := tw_mem 435 (by decide +kernel) rfl
theorem cw_204 : Cond.classLink "ChannelSqueeze" 32 "ChannelSqueeze$History" ∈ TW := tw_mem 204 (by decide +kernel) rfl
theorem cw_205 : Cond.instantiable "ChannelSqueeze$History" 3 ∈ TW := tw_mem 205 (by decide +kernel) rfl
theorem cw_96 : Cond.initialized "ChannelSqueeze$History" ∈ TW := tw_mem 96 (by decide +kernel) rfl
theorem cw_206 : Cond.methodLinkNest "ChannelSqueeze" 34 yc_History "ChannelSqueeze" ∈ NWl := nw_in (List.mem_of_getElem? (i := 206) (by decide +kernel)) rfl
theorem cw_208 : Cond.code yc_History prog_2_method_1_code 1 none ∈ TW := tw_mem 208 (by decide +kernel) rfl
theorem cw_207 : Cond.instanceMethod yc_History ∈ TW := tw_mem 207 (by decide +kernel) rfl
theorem cw_436 : Cond.fieldLink "ChannelSqueeze" 35 "ChannelSqueeze" "history" "LChannelSqueeze$History;" ∈ TW := tw_mem 436 (by decide +kernel) rfl
theorem cw_223 : Cond.classLink "ChannelSqueeze" 39 "[[I" ∈ TW := tw_mem 223 (by decide +kernel) rfl
theorem cw_437 : Cond.fieldLink "ChannelSqueeze" 41 "ChannelSqueeze" "images" "[[I" ∈ TW := tw_mem 437 (by decide +kernel) rfl
theorem cw_257 : Cond.arrayClass .boolean ∈ TW := tw_mem 257 (by decide +kernel) rfl
theorem cw_438 : Cond.fieldLink "ChannelSqueeze" 44 "ChannelSqueeze" "imageIsKept" "[Z" ∈ TW := tw_mem 438 (by decide +kernel) rfl
theorem cw_224 : Cond.classLink "ChannelSqueeze" 48 "ChannelSqueeze$Packer" ∈ TW := tw_mem 224 (by decide +kernel) rfl
theorem cw_225 : Cond.instantiable "ChannelSqueeze$Packer" 8 ∈ TW := tw_mem 225 (by decide +kernel) rfl
theorem cw_97 : Cond.initialized "ChannelSqueeze$Packer" ∈ TW := tw_mem 97 (by decide +kernel) rfl
theorem cw_226 : Cond.methodLinkNest "ChannelSqueeze" 50 yc_Packer "ChannelSqueeze" ∈ NWl := nw_in (List.mem_of_getElem? (i := 226) (by decide +kernel)) rfl
theorem cw_228 : Cond.code yc_Packer prog_5_method_1_code 1 none ∈ TW := tw_mem 228 (by decide +kernel) rfl
theorem cw_227 : Cond.instanceMethod yc_Packer ∈ TW := tw_mem 227 (by decide +kernel) rfl
theorem cw_439 : Cond.fieldLink "ChannelSqueeze" 51 "ChannelSqueeze" "packer" "LChannelSqueeze$Packer;" ∈ TW := tw_mem 439 (by decide +kernel) rfl
theorem cw_258 : Cond.classLink "ChannelSqueeze" 55 "ChannelSqueeze$Market" ∈ TW := tw_mem 258 (by decide +kernel) rfl
theorem cw_259 : Cond.instantiable "ChannelSqueeze$Market" 6 ∈ TW := tw_mem 259 (by decide +kernel) rfl
theorem cw_98 : Cond.initialized "ChannelSqueeze$Market" ∈ TW := tw_mem 98 (by decide +kernel) rfl
theorem cw_260 : Cond.methodLink "ChannelSqueeze" 57 yc_Market ∈ TW := tw_mem 260 (by decide +kernel) rfl
theorem cw_262 : Cond.code yc_Market prog_3_method_1_code 2 none ∈ TW := tw_mem 262 (by decide +kernel) rfl
theorem cw_261 : Cond.instanceMethod yc_Market ∈ TW := tw_mem 261 (by decide +kernel) rfl
theorem cw_440 : Cond.fieldLink "ChannelSqueeze" 60 "ChannelSqueeze" "market" "LChannelSqueeze$Market;" ∈ TW := tw_mem 440 (by decide +kernel) rfl
theorem cw_288 : Cond.classLink "ChannelSqueeze" 64 "ChannelSqueeze$Squeezer" ∈ TW := tw_mem 288 (by decide +kernel) rfl
theorem cw_289 : Cond.instantiable "ChannelSqueeze$Squeezer" 8 ∈ TW := tw_mem 289 (by decide +kernel) rfl
theorem cw_99 : Cond.initialized "ChannelSqueeze$Squeezer" ∈ TW := tw_mem 99 (by decide +kernel) rfl
theorem cw_290 : Cond.methodLink "ChannelSqueeze" 66 yc_Squeezer ∈ TW := tw_mem 290 (by decide +kernel) rfl
theorem cw_292 : Cond.code yc_Squeezer prog_9_method_1_code 2 none ∈ TW := tw_mem 292 (by decide +kernel) rfl
theorem cw_291 : Cond.instanceMethod yc_Squeezer ∈ TW := tw_mem 291 (by decide +kernel) rfl
theorem cw_441 : Cond.fieldLink "ChannelSqueeze" 67 "ChannelSqueeze" "squeezer" "LChannelSqueeze$Squeezer;" ∈ TW := tw_mem 441 (by decide +kernel) rfl
theorem cw_325 : Cond.classLink "ChannelSqueeze" 71 "ChannelSqueeze$Plan" ∈ TW := tw_mem 325 (by decide +kernel) rfl
theorem cw_326 : Cond.instantiable "ChannelSqueeze$Plan" 11 ∈ TW := tw_mem 326 (by decide +kernel) rfl
theorem cw_100 : Cond.initialized "ChannelSqueeze$Plan" ∈ TW := tw_mem 100 (by decide +kernel) rfl
theorem cw_327 : Cond.methodLinkNest "ChannelSqueeze" 73 yc_Plan "ChannelSqueeze" ∈ NWl := nw_in (List.mem_of_getElem? (i := 327) (by decide +kernel)) rfl
theorem cw_329 : Cond.code yc_Plan prog_6_method_1_code 1 none ∈ TW := tw_mem 329 (by decide +kernel) rfl
theorem cw_328 : Cond.instanceMethod yc_Plan ∈ TW := tw_mem 328 (by decide +kernel) rfl
theorem cw_442 : Cond.fieldLink "ChannelSqueeze" 74 "ChannelSqueeze" "plan" "LChannelSqueeze$Plan;" ∈ TW := tw_mem 442 (by decide +kernel) rfl
theorem cw_443 : Cond.fieldLink "ChannelSqueeze" 78 "ChannelSqueeze" "draft" "LChannelSqueeze$Plan;" ∈ TW := tw_mem 443 (by decide +kernel) rfl
theorem cw_446 : Cond.fieldLink "ChannelSqueeze" 81 "ChannelSqueeze" "faultPlace" "I" ∈ TW := tw_mem 446 (by decide +kernel) rfl
theorem cw_1166 : Cond.methodLink "ChannelSqueezeModel" 1 Lib.objectInit ∈ TW := tw_mem 1166 (by decide +kernel) rfl
theorem cw_1169 : Cond.fieldLink "ChannelSqueezeModel" 9 "ChannelSqueezeModel" "wrongAt" "I" ∈ TW := tw_mem 1169 (by decide +kernel) rfl
theorem cw_1170 : Cond.fieldLink "ChannelSqueezeModel" 13 "ChannelSqueezeModel" "tape" "[I" ∈ TW := tw_mem 1170 (by decide +kernel) rfl
theorem cw_1181 : Cond.fieldLink "ChannelSqueezeModel" 17 "ChannelSqueezeModel" "place" "[I" ∈ TW := tw_mem 1181 (by decide +kernel) rfl
theorem cw_1182 : Cond.fieldLink "ChannelSqueezeModel" 20 "ChannelSqueezeModel" "borderSet" "[I" ∈ TW := tw_mem 1182 (by decide +kernel) rfl
theorem cw_1303 : Cond.arrayClass .long ∈ TW := tw_mem 1303 (by decide +kernel) rfl
theorem cw_1183 : Cond.fieldLink "ChannelSqueezeModel" 23 "ChannelSqueezeModel" "names" "[J" ∈ TW := tw_mem 1183 (by decide +kernel) rfl
theorem cw_1191 : Cond.fieldLink "ChannelSqueezeModel" 27 "ChannelSqueezeModel" "now" "[I" ∈ TW := tw_mem 1191 (by decide +kernel) rfl
theorem cw_1192 : Cond.fieldLink "ChannelSqueezeModel" 30 "ChannelSqueezeModel" "read" "[I" ∈ TW := tw_mem 1192 (by decide +kernel) rfl
theorem cw_1193 : Cond.fieldLink "ChannelSqueezeModel" 33 "ChannelSqueezeModel" "past" "[I" ∈ TW := tw_mem 1193 (by decide +kernel) rfl
theorem cw_1194 : Cond.fieldLink "ChannelSqueezeModel" 36 "ChannelSqueezeModel" "images" "[I" ∈ TW := tw_mem 1194 (by decide +kernel) rfl
theorem cw_1195 : Cond.fieldLink "ChannelSqueezeModel" 39 "ChannelSqueezeModel" "kept" "[Z" ∈ TW := tw_mem 1195 (by decide +kernel) rfl
theorem cw_1197 : Cond.fieldLink "ChannelSqueezeModel" 43 "ChannelSqueezeModel" "row" "[I" ∈ TW := tw_mem 1197 (by decide +kernel) rfl
theorem cw_1198 : Cond.fieldLink "ChannelSqueezeModel" 46 "ChannelSqueezeModel" "firstRow" "[I" ∈ TW := tw_mem 1198 (by decide +kernel) rfl
theorem cw_1201 : Cond.fieldLink "ChannelSqueezeModel" 49 "ChannelSqueezeModel" "paid" "[I" ∈ TW := tw_mem 1201 (by decide +kernel) rfl
theorem cw_1206 : Cond.fieldLink "ChannelSqueezeModel" 52 "ChannelSqueezeModel" "known" "[I" ∈ TW := tw_mem 1206 (by decide +kernel) rfl
theorem cw_1207 : Cond.fieldLink "ChannelSqueezeModel" 55 "ChannelSqueezeModel" "best" "[I" ∈ TW := tw_mem 1207 (by decide +kernel) rfl
theorem cw_1209 : Cond.fieldLink "ChannelSqueezeModel" 58 "ChannelSqueezeModel" "goes" "[I" ∈ TW := tw_mem 1209 (by decide +kernel) rfl
theorem cw_1210 : Cond.fieldLink "ChannelSqueezeModel" 61 "ChannelSqueezeModel" "then" "[I" ∈ TW := tw_mem 1210 (by decide +kernel) rfl
theorem cw_1211 : Cond.fieldLink "ChannelSqueezeModel" 64 "ChannelSqueezeModel" "aside" "[I" ∈ TW := tw_mem 1211 (by decide +kernel) rfl
def rc_CS (E : EV) (a : Nat)  : va_W := (a, .inr (9, ((((((((((((nl 9).set 0 (.ref (a + 1))).set 1 (.ref (a + 3))).set 2 (.ref (a + 4))).set 3 (.ref (a + 8))).set 4 (.ref (a + 20))).set 5 (.ref (a + 23))).set 6 (.ref (a + 24))).set 7 (.ref (a + 40))).set 8 (.ref (a + 42))).set 9 (.ref (a + 46))).set 10 (.ref (a + 73))).set 13 (.int (-(nI 1))))) :: ([] ++ rc_Tape E (a + 1) ++ rc_Reader E (a + 3) (a + 1) ++ rc_Now E (a + 4) ++ rc_History E (a + 8) ++ rowsW E (a + 20) 2 26 ++ [(a + 23, .inl (eZ E, (2, .inl fun _ => 0)))] ++ rc_Packer E (a + 24) ++ rc_Market E (a + 40) (a + 24) ++ rc_Squeezer E (a + 42) (a + 24) ++ rc_Plan E (a + 46) ++ rc_Plan E (a + 73))
theorem ct_CS (E : EV) (a : Nat)  : CtM E yc_CS prog_1_method_1_code 1 [] a 9 99 (rc_CS E a) 4690 3 := by
  refine ct_of (by decide) rfl rfl ?_
  intro p e s mid below meth c js X hj
  have hl : lv_has js 1 [(0, .ref a)] := by rw [hj]; exact lv_entry [.ref a] (n := 1) (Nat.le_of_ble_eq_true rfl)
  have hjs : js.size = 1 := hl.1
  have hj0 := lv_at hl 0 rfl
  clear hj
  refine j_aload X (k := 0) (by decide +kernel) hj0 ?_
  refine j_obj X hjs cw_118 (by decide +kernel) (Nat.le_of_ble_eq_true rfl) (Nat.le_of_ble_eq_true rfl) ?_
  refine j_aload X (k := 0) (by decide +kernel) hj0 ?_
  refine j_new X (cj := 8) (by decide) cw_121 cw_122 cw_93 (Nat.le_of_ble_eq_true rfl) (Nat.le_of_ble_eq_true rfl) (by decide +kernel) ?_
  refine j_dup X (by decide +kernel) ?_
  refine j_callN X hjs (na := 0) (As := []) (ct_Tape E (a + 1)) cw_123 cw_125 cw_93 cw_124 rfl rfl (by decide +kernel) ⟨(Nat.le_of_ble_eq_true rfl), (Nat.le_of_ble_eq_true rfl)⟩ (Nat.le_of_ble_eq_true rfl) (Nat.le_of_ble_eq_true rfl) (Nat.le_of_ble_eq_true rfl) (by decide +kernel) ?_
  refine j_put X (k := 0) (ix := 12) (v := .ref (a + 1)) (by decide) (by decide) (by simp only [List.length_set, nl_len]) rfl cw_433 rfl rfl (by decide +kernel) ?_
  refine j_aload X (k := 0) (by decide +kernel) hj0 ?_
  refine j_new X (cj := 5) (by decide) cw_136 cw_137 cw_94 (Nat.le_of_ble_eq_true rfl) (Nat.le_of_ble_eq_true rfl) (by decide +kernel) ?_
  refine j_dup X (by decide +kernel) ?_
  refine j_aload X (k := 0) (by decide +kernel) hj0 ?_
  refine j_get X (k := 0) (ix := 12) (v := .ref (a + 1)) rfl (by decide) (by decide) rfl cw_433 rfl (by decide +kernel) ?_
  refine j_callP X hjs (na := 1) (As := [.ref (a + 1)]) (ct_Reader E (a + 3) (a + 1)) cw_138 cw_140 cw_94 cw_139 rfl rfl (by decide +kernel) ⟨(Nat.le_of_ble_eq_true rfl), (Nat.le_of_ble_eq_true rfl)⟩ (Nat.le_of_ble_eq_true rfl) (Nat.le_of_ble_eq_true rfl) (Nat.le_of_ble_eq_true rfl) (by decide +kernel) ?_
  refine j_put X (k := 1) (ix := 21) (v := .ref (a + 3)) (by decide) (by decide) (by simp only [List.length_set, nl_len]) rfl cw_434 rfl rfl (by decide +kernel) ?_
  refine j_aload X (k := 0) (by decide +kernel) hj0 ?_
  refine j_new X (cj := 2) (by decide) cw_172 cw_173 cw_95 (Nat.le_of_ble_eq_true rfl) (Nat.le_of_ble_eq_true rfl) (by decide +kernel) ?_
  refine j_dup X (by decide +kernel) ?_
  refine j_callN X hjs (na := 0) (As := []) (ct_Now E (a + 4)) cw_174 cw_176 cw_95 cw_175 rfl rfl (by decide +kernel) ⟨(Nat.le_of_ble_eq_true rfl), (Nat.le_of_ble_eq_true rfl)⟩ (Nat.le_of_ble_eq_true rfl) (Nat.le_of_ble_eq_true rfl) (Nat.le_of_ble_eq_true rfl) (by decide +kernel) ?_
  refine j_put X (k := 2) (ix := 28) (v := .ref (a + 4)) (by decide) (by decide) (by simp only [List.length_set, nl_len]) rfl cw_435 rfl rfl (by decide +kernel) ?_
  refine j_aload X (k := 0) (by decide +kernel) hj0 ?_
  refine j_new X (cj := 0) (by decide) cw_204 cw_205 cw_96 (Nat.le_of_ble_eq_true rfl) (Nat.le_of_ble_eq_true rfl) (by decide +kernel) ?_
  refine j_dup X (by decide +kernel) ?_
  refine j_callN X hjs (na := 0) (As := []) (ct_History E (a + 8)) cw_206 cw_208 cw_96 cw_207 rfl rfl (by decide +kernel) ⟨(Nat.le_of_ble_eq_true rfl), (Nat.le_of_ble_eq_true rfl)⟩ (Nat.le_of_ble_eq_true rfl) (Nat.le_of_ble_eq_true rfl) (Nat.le_of_ble_eq_true rfl) (by decide +kernel) ?_
  refine j_put X (k := 3) (ix := 35) (v := .ref (a + 8)) (by decide) (by decide) (by simp only [List.length_set, nl_len]) rfl cw_436 rfl rfl (by decide +kernel) ?_
  refine j_aload X (k := 0) (by decide +kernel) hj0 ?_
  refine j_iconst X (v := 2) (x := nI 2) (by decide +kernel) (by decide) ?_
  refine j_bipush X (v := 26) (x := nI 26) (by decide +kernel) (by decide) ?_
  refine j_multi X (N := 2) (M := 26) (x := nI 2) (y := nI 26) cw_223 (by decide) (by decide) (by decide) (by decide) (Nat.le_of_ble_eq_true rfl) (Nat.le_of_ble_eq_true rfl) (Nat.le_of_ble_eq_true rfl) (Nat.le_of_ble_eq_true rfl) (by decide +kernel) ?_
  refine j_put X (k := 4) (ix := 41) (v := .ref (a + 20)) (by decide) (by decide) (by simp only [List.length_set, nl_len]) rfl cw_437 rfl rfl (by decide +kernel) ?_
  refine j_aload X (k := 0) (by decide +kernel) hj0 ?_
  refine j_iconst X (v := 2) (x := nI 2) (by decide +kernel) (by decide) ?_
  refine j_newa X (x := nI 2) (N := 2) (t0 := 2) (cA := eZ E) (ty := .boolean) (atype := .boolean) (a1 := (2, .inl fun _ => 0)) rfl cw_257 rfl rfl (fun _ h => h) (by decide) (by decide) (by decide) (Nat.le_of_ble_eq_true rfl) (Nat.le_of_ble_eq_true rfl) (by decide +kernel) ?_
  refine j_put X (k := 5) (ix := 44) (v := .ref (a + 23)) (by decide) (by decide) (by simp only [List.length_set, nl_len]) rfl cw_438 rfl rfl (by decide +kernel) ?_
  refine j_aload X (k := 0) (by decide +kernel) hj0 ?_
  refine j_new X (cj := 3) (by decide) cw_224 cw_225 cw_97 (Nat.le_of_ble_eq_true rfl) (Nat.le_of_ble_eq_true rfl) (by decide +kernel) ?_
  refine j_dup X (by decide +kernel) ?_
  refine j_callN X hjs (na := 0) (As := []) (ct_Packer E (a + 24)) cw_226 cw_228 cw_97 cw_227 rfl rfl (by decide +kernel) ⟨(Nat.le_of_ble_eq_true rfl), (Nat.le_of_ble_eq_true rfl)⟩ (Nat.le_of_ble_eq_true rfl) (Nat.le_of_ble_eq_true rfl) (Nat.le_of_ble_eq_true rfl) (by decide +kernel) ?_
  refine j_put X (k := 6) (ix := 51) (v := .ref (a + 24)) (by decide) (by decide) (by simp only [List.length_set, nl_len]) rfl cw_439 rfl rfl (by decide +kernel) ?_
  refine j_aload X (k := 0) (by decide +kernel) hj0 ?_
  refine j_new X (cj := 1) (by decide) cw_258 cw_259 cw_98 (Nat.le_of_ble_eq_true rfl) (Nat.le_of_ble_eq_true rfl) (by decide +kernel) ?_
  refine j_dup X (by decide +kernel) ?_
  refine j_aload X (k := 0) (by decide +kernel) hj0 ?_
  refine j_get X (k := 6) (ix := 51) (v := .ref (a + 24)) rfl (by decide) (by decide) rfl cw_439 rfl (by decide +kernel) ?_
  refine j_callP X hjs (na := 1) (As := [.ref (a + 24)]) (ct_Market E (a + 40) (a + 24)) cw_260 cw_262 cw_98 cw_261 rfl rfl (by decide +kernel) ⟨(Nat.le_of_ble_eq_true rfl), (Nat.le_of_ble_eq_true rfl)⟩ (Nat.le_of_ble_eq_true rfl) (Nat.le_of_ble_eq_true rfl) (Nat.le_of_ble_eq_true rfl) (by decide +kernel) ?_
  refine j_put X (k := 7) (ix := 60) (v := .ref (a + 40)) (by decide) (by decide) (by simp only [List.length_set, nl_len]) rfl cw_440 rfl rfl (by decide +kernel) ?_
  refine j_aload X (k := 0) (by decide +kernel) hj0 ?_
  refine j_new X (cj := 7) (by decide) cw_288 cw_289 cw_99 (Nat.le_of_ble_eq_true rfl) (Nat.le_of_ble_eq_true rfl) (by decide +kernel) ?_
  refine j_dup X (by decide +kernel) ?_
  refine j_aload X (k := 0) (by decide +kernel) hj0 ?_
  refine j_get X (k := 6) (ix := 51) (v := .ref (a + 24)) rfl (by decide) (by decide) rfl cw_439 rfl (by decide +kernel) ?_
  refine j_callP X hjs (na := 1) (As := [.ref (a + 24)]) (ct_Squeezer E (a + 42) (a + 24)) cw_290 cw_292 cw_99 cw_291 rfl rfl (by decide +kernel) ⟨(Nat.le_of_ble_eq_true rfl), (Nat.le_of_ble_eq_true rfl)⟩ (Nat.le_of_ble_eq_true rfl) (Nat.le_of_ble_eq_true rfl) (Nat.le_of_ble_eq_true rfl) (by decide +kernel) ?_
  refine j_put X (k := 8) (ix := 67) (v := .ref (a + 42)) (by decide) (by decide) (by simp only [List.length_set, nl_len]) rfl cw_441 rfl rfl (by decide +kernel) ?_
  refine j_aload X (k := 0) (by decide +kernel) hj0 ?_
  refine j_new X (cj := 4) (by decide) cw_325 cw_326 cw_100 (Nat.le_of_ble_eq_true rfl) (Nat.le_of_ble_eq_true rfl) (by decide +kernel) ?_
  refine j_dup X (by decide +kernel) ?_
  refine j_callN X hjs (na := 0) (As := []) (ct_Plan E (a + 46)) cw_327 cw_329 cw_100 cw_328 rfl rfl (by decide +kernel) ⟨(Nat.le_of_ble_eq_true rfl), (Nat.le_of_ble_eq_true rfl)⟩ (Nat.le_of_ble_eq_true rfl) (Nat.le_of_ble_eq_true rfl) (Nat.le_of_ble_eq_true rfl) (by decide +kernel) ?_
  refine j_put X (k := 9) (ix := 74) (v := .ref (a + 46)) (by decide) (by decide) (by simp only [List.length_set, nl_len]) rfl cw_442 rfl rfl (by decide +kernel) ?_
  refine j_aload X (k := 0) (by decide +kernel) hj0 ?_
  refine j_new X (cj := 4) (by decide) cw_325 cw_326 cw_100 (Nat.le_of_ble_eq_true rfl) (Nat.le_of_ble_eq_true rfl) (by decide +kernel) ?_
  refine j_dup X (by decide +kernel) ?_
  refine j_callN X hjs (na := 0) (As := []) (ct_Plan E (a + 73)) cw_327 cw_329 cw_100 cw_328 rfl rfl (by decide +kernel) ⟨(Nat.le_of_ble_eq_true rfl), (Nat.le_of_ble_eq_true rfl)⟩ (Nat.le_of_ble_eq_true rfl) (Nat.le_of_ble_eq_true rfl) (Nat.le_of_ble_eq_true rfl) (by decide +kernel) ?_
  refine j_put X (k := 10) (ix := 78) (v := .ref (a + 73)) (by decide) (by decide) (by simp only [List.length_set, nl_len]) rfl cw_443 rfl rfl (by decide +kernel) ?_
  refine j_aload X (k := 0) (by decide +kernel) hj0 ?_
  refine j_iconst X (v := -1) (x := -(nI 1)) (by decide +kernel) (by decide) ?_
  refine j_put X (k := 13) (ix := 81) (v := .int (-(nI 1))) (by decide) (by decide) (by simp only [List.length_set, nl_len]) rfl cw_446 rfl rfl (by decide +kernel) ?_
  exact j_ret X (by decide +kernel)
def rc_Mo (E : EV) (a : Nat)  : va_W := (a, .inr (10, ((((((((((((((((((nl 10).set 2 (.int (-(nI 1)))).set 3 (.ref (a + 1))).set 14 (.ref (a + 2))).set 15 (.ref (a + 3))).set 16 (.ref (a + 4))).set 24 (.ref (a + 5))).set 25 (.ref (a + 6))).set 26 (.ref (a + 7))).set 27 (.ref (a + 8))).set 28 (.ref (a + 9))).set 30 (.ref (a + 10))).set 31 (.ref (a + 11))).set 34 (.ref (a + 12))).set 39 (.ref (a + 13))).set 40 (.ref (a + 14))).set 42 (.ref (a + 15))).set 43 (.ref (a + 16))).set 44 (.ref (a + 17)))) :: ([] ++ [(a + 1, .inl (eI E, (700, .inl fun _ => 0)))] ++ [(a + 2, .inl (eI E, (72, .inl fun _ => 0)))] ++ [(a + 3, .inl (eI E, (8, .inl fun _ => 0)))] ++ [(a + 4, .inl (eJ E, (16, .inr (.inl fun _ => 0))))] ++ [(a + 5, .inl (eI E, (26, .inl fun _ => 0)))] ++ [(a + 6, .inl (eI E, (26, .inl fun _ => 0)))] ++ [(a + 7, .inl (eI E, (260, .inl fun _ => 0)))] ++ [(a + 8, .inl (eI E, (52, .inl fun _ => 0)))] ++ [(a + 9, .inl (eZ E, (2, .inl fun _ => 0)))] ++ [(a + 10, .inl (eI E, (8, .inl fun _ => 0)))] ++ [(a + 11, .inl (eI E, (8, .inl fun _ => 0)))] ++ [(a + 12, .inl (eI E, (8, .inl fun _ => 0)))] ++ [(a + 13, .inl (eI E, (256, .inl fun _ => 0)))] ++ [(a + 14, .inl (eI E, (8, .inl fun _ => 0)))] ++ [(a + 15, .inl (eI E, (8, .inl fun _ => 0)))] ++ [(a + 16, .inl (eI E, (8, .inl fun _ => 0)))] ++ [(a + 17, .inl (eI E, (8, .inl fun _ => 0)))])
theorem ct_Mo (E : EV) (a : Nat)  : CtM E yc_Mo prog_12_method_1_code 1 [] a 10 17 (rc_Mo E a) 1474 1 := by
  refine ct_of (by decide) rfl rfl ?_
  intro p e s mid below meth c js X hj
  have hl : lv_has js 1 [(0, .ref a)] := by rw [hj]; exact lv_entry [.ref a] (n := 1) (Nat.le_of_ble_eq_true rfl)
  have hjs : js.size = 1 := hl.1
  have hj0 := lv_at hl 0 rfl
  clear hj
  refine j_aload X (k := 0) (by decide +kernel) hj0 ?_
  refine j_obj X hjs cw_1166 (by decide +kernel) (Nat.le_of_ble_eq_true rfl) (Nat.le_of_ble_eq_true rfl) ?_
  refine j_aload X (k := 0) (by decide +kernel) hj0 ?_
  refine j_iconst X (v := -1) (x := -(nI 1)) (by decide +kernel) (by decide) ?_
  refine j_put X (k := 2) (ix := 9) (v := .int (-(nI 1))) (by decide) (by decide) (by simp only [List.length_set, nl_len]) rfl cw_1169 rfl rfl (by decide +kernel) ?_
  refine j_aload X (k := 0) (by decide +kernel) hj0 ?_
  refine j_sipush X (v := 700) (x := nI 700) (by decide +kernel) (by decide) ?_
  refine j_newa X (x := nI 700) (N := 700) (t0 := 0) (cA := eI E) (ty := .int) (atype := .int) (a1 := (700, .inl fun _ => 0)) rfl cw_203 rfl rfl (fun _ h => h) (by decide) (by decide) (by decide) (Nat.le_of_ble_eq_true rfl) (Nat.le_of_ble_eq_true rfl) (by decide +kernel) ?_
  refine j_put X (k := 3) (ix := 13) (v := .ref (a + 1)) (by decide) (by decide) (by simp only [List.length_set, nl_len]) rfl cw_1170 rfl rfl (by decide +kernel) ?_
  refine j_aload X (k := 0) (by decide +kernel) hj0 ?_
  refine j_bipush X (v := 72) (x := nI 72) (by decide +kernel) (by decide) ?_
  refine j_newa X (x := nI 72) (N := 72) (t0 := 0) (cA := eI E) (ty := .int) (atype := .int) (a1 := (72, .inl fun _ => 0)) rfl cw_203 rfl rfl (fun _ h => h) (by decide) (by decide) (by decide) (Nat.le_of_ble_eq_true rfl) (Nat.le_of_ble_eq_true rfl) (by decide +kernel) ?_
  refine j_put X (k := 14) (ix := 17) (v := .ref (a + 2)) (by decide) (by decide) (by simp only [List.length_set, nl_len]) rfl cw_1181 rfl rfl (by decide +kernel) ?_
  refine j_aload X (k := 0) (by decide +kernel) hj0 ?_
  refine j_bipush X (v := 8) (x := nI 8) (by decide +kernel) (by decide) ?_
  refine j_newa X (x := nI 8) (N := 8) (t0 := 0) (cA := eI E) (ty := .int) (atype := .int) (a1 := (8, .inl fun _ => 0)) rfl cw_203 rfl rfl (fun _ h => h) (by decide) (by decide) (by decide) (Nat.le_of_ble_eq_true rfl) (Nat.le_of_ble_eq_true rfl) (by decide +kernel) ?_
  refine j_put X (k := 15) (ix := 20) (v := .ref (a + 3)) (by decide) (by decide) (by simp only [List.length_set, nl_len]) rfl cw_1182 rfl rfl (by decide +kernel) ?_
  refine j_aload X (k := 0) (by decide +kernel) hj0 ?_
  refine j_bipush X (v := 16) (x := nI 16) (by decide +kernel) (by decide) ?_
  refine j_newa X (x := nI 16) (N := 16) (t0 := 3) (cA := eJ E) (ty := .long) (atype := .long) (a1 := (16, .inr (.inl fun _ => 0))) rfl cw_1303 rfl rfl (fun _ h => h) (by decide) (by decide) (by decide) (Nat.le_of_ble_eq_true rfl) (Nat.le_of_ble_eq_true rfl) (by decide +kernel) ?_
  refine j_put X (k := 16) (ix := 23) (v := .ref (a + 4)) (by decide) (by decide) (by simp only [List.length_set, nl_len]) rfl cw_1183 rfl rfl (by decide +kernel) ?_
  refine j_aload X (k := 0) (by decide +kernel) hj0 ?_
  refine j_bipush X (v := 26) (x := nI 26) (by decide +kernel) (by decide) ?_
  refine j_newa X (x := nI 26) (N := 26) (t0 := 0) (cA := eI E) (ty := .int) (atype := .int) (a1 := (26, .inl fun _ => 0)) rfl cw_203 rfl rfl (fun _ h => h) (by decide) (by decide) (by decide) (Nat.le_of_ble_eq_true rfl) (Nat.le_of_ble_eq_true rfl) (by decide +kernel) ?_
  refine j_put X (k := 24) (ix := 27) (v := .ref (a + 5)) (by decide) (by decide) (by simp only [List.length_set, nl_len]) rfl cw_1191 rfl rfl (by decide +kernel) ?_
  refine j_aload X (k := 0) (by decide +kernel) hj0 ?_
  refine j_bipush X (v := 26) (x := nI 26) (by decide +kernel) (by decide) ?_
  refine j_newa X (x := nI 26) (N := 26) (t0 := 0) (cA := eI E) (ty := .int) (atype := .int) (a1 := (26, .inl fun _ => 0)) rfl cw_203 rfl rfl (fun _ h => h) (by decide) (by decide) (by decide) (Nat.le_of_ble_eq_true rfl) (Nat.le_of_ble_eq_true rfl) (by decide +kernel) ?_
  refine j_put X (k := 25) (ix := 30) (v := .ref (a + 6)) (by decide) (by decide) (by simp only [List.length_set, nl_len]) rfl cw_1192 rfl rfl (by decide +kernel) ?_
  refine j_aload X (k := 0) (by decide +kernel) hj0 ?_
  refine j_sipush X (v := 260) (x := nI 260) (by decide +kernel) (by decide) ?_
  refine j_newa X (x := nI 260) (N := 260) (t0 := 0) (cA := eI E) (ty := .int) (atype := .int) (a1 := (260, .inl fun _ => 0)) rfl cw_203 rfl rfl (fun _ h => h) (by decide) (by decide) (by decide) (Nat.le_of_ble_eq_true rfl) (Nat.le_of_ble_eq_true rfl) (by decide +kernel) ?_
  refine j_put X (k := 26) (ix := 33) (v := .ref (a + 7)) (by decide) (by decide) (by simp only [List.length_set, nl_len]) rfl cw_1193 rfl rfl (by decide +kernel) ?_
  refine j_aload X (k := 0) (by decide +kernel) hj0 ?_
  refine j_bipush X (v := 52) (x := nI 52) (by decide +kernel) (by decide) ?_
  refine j_newa X (x := nI 52) (N := 52) (t0 := 0) (cA := eI E) (ty := .int) (atype := .int) (a1 := (52, .inl fun _ => 0)) rfl cw_203 rfl rfl (fun _ h => h) (by decide) (by decide) (by decide) (Nat.le_of_ble_eq_true rfl) (Nat.le_of_ble_eq_true rfl) (by decide +kernel) ?_
  refine j_put X (k := 27) (ix := 36) (v := .ref (a + 8)) (by decide) (by decide) (by simp only [List.length_set, nl_len]) rfl cw_1194 rfl rfl (by decide +kernel) ?_
  refine j_aload X (k := 0) (by decide +kernel) hj0 ?_
  refine j_iconst X (v := 2) (x := nI 2) (by decide +kernel) (by decide) ?_
  refine j_newa X (x := nI 2) (N := 2) (t0 := 2) (cA := eZ E) (ty := .boolean) (atype := .boolean) (a1 := (2, .inl fun _ => 0)) rfl cw_257 rfl rfl (fun _ h => h) (by decide) (by decide) (by decide) (Nat.le_of_ble_eq_true rfl) (Nat.le_of_ble_eq_true rfl) (by decide +kernel) ?_
  refine j_put X (k := 28) (ix := 39) (v := .ref (a + 9)) (by decide) (by decide) (by simp only [List.length_set, nl_len]) rfl cw_1195 rfl rfl (by decide +kernel) ?_
  refine j_aload X (k := 0) (by decide +kernel) hj0 ?_
  refine j_bipush X (v := 8) (x := nI 8) (by decide +kernel) (by decide) ?_
  refine j_newa X (x := nI 8) (N := 8) (t0 := 0) (cA := eI E) (ty := .int) (atype := .int) (a1 := (8, .inl fun _ => 0)) rfl cw_203 rfl rfl (fun _ h => h) (by decide) (by decide) (by decide) (Nat.le_of_ble_eq_true rfl) (Nat.le_of_ble_eq_true rfl) (by decide +kernel) ?_
  refine j_put X (k := 30) (ix := 43) (v := .ref (a + 10)) (by decide) (by decide) (by simp only [List.length_set, nl_len]) rfl cw_1197 rfl rfl (by decide +kernel) ?_
  refine j_aload X (k := 0) (by decide +kernel) hj0 ?_
  refine j_bipush X (v := 8) (x := nI 8) (by decide +kernel) (by decide) ?_
  refine j_newa X (x := nI 8) (N := 8) (t0 := 0) (cA := eI E) (ty := .int) (atype := .int) (a1 := (8, .inl fun _ => 0)) rfl cw_203 rfl rfl (fun _ h => h) (by decide) (by decide) (by decide) (Nat.le_of_ble_eq_true rfl) (Nat.le_of_ble_eq_true rfl) (by decide +kernel) ?_
  refine j_put X (k := 31) (ix := 46) (v := .ref (a + 11)) (by decide) (by decide) (by simp only [List.length_set, nl_len]) rfl cw_1198 rfl rfl (by decide +kernel) ?_
  refine j_aload X (k := 0) (by decide +kernel) hj0 ?_
  refine j_bipush X (v := 8) (x := nI 8) (by decide +kernel) (by decide) ?_
  refine j_newa X (x := nI 8) (N := 8) (t0 := 0) (cA := eI E) (ty := .int) (atype := .int) (a1 := (8, .inl fun _ => 0)) rfl cw_203 rfl rfl (fun _ h => h) (by decide) (by decide) (by decide) (Nat.le_of_ble_eq_true rfl) (Nat.le_of_ble_eq_true rfl) (by decide +kernel) ?_
  refine j_put X (k := 34) (ix := 49) (v := .ref (a + 12)) (by decide) (by decide) (by simp only [List.length_set, nl_len]) rfl cw_1201 rfl rfl (by decide +kernel) ?_
  refine j_aload X (k := 0) (by decide +kernel) hj0 ?_
  refine j_sipush X (v := 256) (x := nI 256) (by decide +kernel) (by decide) ?_
  refine j_newa X (x := nI 256) (N := 256) (t0 := 0) (cA := eI E) (ty := .int) (atype := .int) (a1 := (256, .inl fun _ => 0)) rfl cw_203 rfl rfl (fun _ h => h) (by decide) (by decide) (by decide) (Nat.le_of_ble_eq_true rfl) (Nat.le_of_ble_eq_true rfl) (by decide +kernel) ?_
  refine j_put X (k := 39) (ix := 52) (v := .ref (a + 13)) (by decide) (by decide) (by simp only [List.length_set, nl_len]) rfl cw_1206 rfl rfl (by decide +kernel) ?_
  refine j_aload X (k := 0) (by decide +kernel) hj0 ?_
  refine j_bipush X (v := 8) (x := nI 8) (by decide +kernel) (by decide) ?_
  refine j_newa X (x := nI 8) (N := 8) (t0 := 0) (cA := eI E) (ty := .int) (atype := .int) (a1 := (8, .inl fun _ => 0)) rfl cw_203 rfl rfl (fun _ h => h) (by decide) (by decide) (by decide) (Nat.le_of_ble_eq_true rfl) (Nat.le_of_ble_eq_true rfl) (by decide +kernel) ?_
  refine j_put X (k := 40) (ix := 55) (v := .ref (a + 14)) (by decide) (by decide) (by simp only [List.length_set, nl_len]) rfl cw_1207 rfl rfl (by decide +kernel) ?_
  refine j_aload X (k := 0) (by decide +kernel) hj0 ?_
  refine j_bipush X (v := 8) (x := nI 8) (by decide +kernel) (by decide) ?_
  refine j_newa X (x := nI 8) (N := 8) (t0 := 0) (cA := eI E) (ty := .int) (atype := .int) (a1 := (8, .inl fun _ => 0)) rfl cw_203 rfl rfl (fun _ h => h) (by decide) (by decide) (by decide) (Nat.le_of_ble_eq_true rfl) (Nat.le_of_ble_eq_true rfl) (by decide +kernel) ?_
  refine j_put X (k := 42) (ix := 58) (v := .ref (a + 15)) (by decide) (by decide) (by simp only [List.length_set, nl_len]) rfl cw_1209 rfl rfl (by decide +kernel) ?_
  refine j_aload X (k := 0) (by decide +kernel) hj0 ?_
  refine j_bipush X (v := 8) (x := nI 8) (by decide +kernel) (by decide) ?_
  refine j_newa X (x := nI 8) (N := 8) (t0 := 0) (cA := eI E) (ty := .int) (atype := .int) (a1 := (8, .inl fun _ => 0)) rfl cw_203 rfl rfl (fun _ h => h) (by decide) (by decide) (by decide) (Nat.le_of_ble_eq_true rfl) (Nat.le_of_ble_eq_true rfl) (by decide +kernel) ?_
  refine j_put X (k := 43) (ix := 61) (v := .ref (a + 16)) (by decide) (by decide) (by simp only [List.length_set, nl_len]) rfl cw_1210 rfl rfl (by decide +kernel) ?_
  refine j_aload X (k := 0) (by decide +kernel) hj0 ?_
  refine j_bipush X (v := 8) (x := nI 8) (by decide +kernel) (by decide) ?_
  refine j_newa X (x := nI 8) (N := 8) (t0 := 0) (cA := eI E) (ty := .int) (atype := .int) (a1 := (8, .inl fun _ => 0)) rfl cw_203 rfl rfl (fun _ h => h) (by decide) (by decide) (by decide) (Nat.le_of_ble_eq_true rfl) (Nat.le_of_ble_eq_true rfl) (by decide +kernel) ?_
  refine j_put X (k := 44) (ix := 64) (v := .ref (a + 17)) (by decide) (by decide) (by simp only [List.length_set, nl_len]) rfl cw_1211 rfl rfl (by decide +kernel) ?_
  exact j_ret X (by decide +kernel)
