/-! the constructors (written by genct.py) -/
def yc_Tape : MethodName := ⟨"ChannelSqueeze$Tape", "<init>", "()V"⟩
def yc_Reader : MethodName := ⟨"ChannelSqueeze$Reader", "<init>", "(LChannelSqueeze$Tape;)V"⟩
def yc_Now : MethodName := ⟨"ChannelSqueeze$Now", "<init>", "()V"⟩
def yc_History : MethodName := ⟨"ChannelSqueeze$History", "<init>", "()V"⟩
def yc_Packer : MethodName := ⟨"ChannelSqueeze$Packer", "<init>", "()V"⟩
def yc_Market : MethodName := ⟨"ChannelSqueeze$Market", "<init>", "(LChannelSqueeze$Packer;)V"⟩
def yc_Squeezer : MethodName := ⟨"ChannelSqueeze$Squeezer", "<init>", "(LChannelSqueeze$Packer;)V"⟩
def yc_Sites : MethodName := ⟨"ChannelSqueeze$Sites", "<init>", "(I)V"⟩
def yc_Plan : MethodName := ⟨"ChannelSqueeze$Plan", "<init>", "()V"⟩
theorem cw_126 : Cond.methodLink "ChannelSqueeze$Tape" 3 Lib.objectInit ∈ TW := tw_mem 126 (by decide +kernel) rfl
theorem cw_135 : Cond.arrayClass .byte ∈ TW := tw_mem 135 (by decide +kernel) rfl
theorem cw_127 : Cond.fieldLink "ChannelSqueeze$Tape" 9 "ChannelSqueeze$Tape" "held" "[B" ∈ TW := tw_mem 127 (by decide +kernel) rfl
theorem cw_141 : Cond.methodLink "ChannelSqueeze$Reader" 3 Lib.objectInit ∈ TW := tw_mem 141 (by decide +kernel) rfl
theorem cw_142 : Cond.fieldLink "ChannelSqueeze$Reader" 9 "ChannelSqueeze$Reader" "tape" "LChannelSqueeze$Tape;" ∈ TW := tw_mem 142 (by decide +kernel) rfl
theorem cw_177 : Cond.methodLink "ChannelSqueeze$Now" 3 Lib.objectInit ∈ TW := tw_mem 177 (by decide +kernel) rfl
theorem cw_203 : Cond.arrayClass .int ∈ TW := tw_mem 203 (by decide +kernel) rfl
theorem cw_178 : Cond.fieldLink "ChannelSqueeze$Now" 9 "ChannelSqueeze$Now" "channel" "[I" ∈ TW := tw_mem 178 (by decide +kernel) rfl
theorem cw_181 : Cond.fieldLink "ChannelSqueeze$Now" 15 "ChannelSqueeze$Now" "worth" "[I" ∈ TW := tw_mem 181 (by decide +kernel) rfl
theorem cw_184 : Cond.fieldLink "ChannelSqueeze$Now" 18 "ChannelSqueeze$Now" "banned" "[I" ∈ TW := tw_mem 184 (by decide +kernel) rfl
theorem cw_209 : Cond.methodLink "ChannelSqueeze$History" 3 Lib.objectInit ∈ TW := tw_mem 209 (by decide +kernel) rfl
theorem cw_210 : Cond.classLink "ChannelSqueeze$History" 11 "[[I" ∈ TW := tw_mem 210 (by decide +kernel) rfl
theorem cw_212 : Cond.fieldLink "ChannelSqueeze$History" 13 "ChannelSqueeze$History" "ring" "[[I" ∈ TW := tw_mem 212 (by decide +kernel) rfl
theorem cw_229 : Cond.methodLink "ChannelSqueeze$Packer" 3 Lib.objectInit ∈ TW := tw_mem 229 (by decide +kernel) rfl
theorem cw_231 : Cond.fieldLink "ChannelSqueeze$Packer" 9 "ChannelSqueeze$Packer" "list" "[I" ∈ TW := tw_mem 231 (by decide +kernel) rfl
theorem cw_232 : Cond.fieldLink "ChannelSqueeze$Packer" 15 "ChannelSqueeze$Packer" "clash" "[I" ∈ TW := tw_mem 232 (by decide +kernel) rfl
theorem cw_233 : Cond.fieldLink "ChannelSqueeze$Packer" 18 "ChannelSqueeze$Packer" "brush" "[I" ∈ TW := tw_mem 233 (by decide +kernel) rfl
theorem cw_230 : Cond.classLink "ChannelSqueeze$Packer" 21 "[[I" ∈ TW := tw_mem 230 (by decide +kernel) rfl
theorem cw_234 : Cond.fieldLink "ChannelSqueeze$Packer" 23 "ChannelSqueeze$Packer" "left" "[[I" ∈ TW := tw_mem 234 (by decide +kernel) rfl
theorem cw_236 : Cond.fieldLink "ChannelSqueeze$Packer" 26 "ChannelSqueeze$Packer" "known" "[I" ∈ TW := tw_mem 236 (by decide +kernel) rfl
theorem cw_237 : Cond.fieldLink "ChannelSqueeze$Packer" 29 "ChannelSqueeze$Packer" "needed" "[I" ∈ TW := tw_mem 237 (by decide +kernel) rfl
theorem cw_263 : Cond.methodLink "ChannelSqueeze$Market" 3 Lib.objectInit ∈ TW := tw_mem 263 (by decide +kernel) rfl
theorem cw_265 : Cond.fieldLink "ChannelSqueeze$Market" 9 "ChannelSqueeze$Market" "price" "[I" ∈ TW := tw_mem 265 (by decide +kernel) rfl
theorem cw_264 : Cond.fieldLink "ChannelSqueeze$Market" 15 "ChannelSqueeze$Market" "packer" "LChannelSqueeze$Packer;" ∈ TW := tw_mem 264 (by decide +kernel) rfl
theorem cw_293 : Cond.methodLink "ChannelSqueeze$Squeezer" 3 Lib.objectInit ∈ TW := tw_mem 293 (by decide +kernel) rfl
theorem cw_295 : Cond.fieldLink "ChannelSqueeze$Squeezer" 9 "ChannelSqueeze$Squeezer" "row" "[I" ∈ TW := tw_mem 295 (by decide +kernel) rfl
theorem cw_297 : Cond.fieldLink "ChannelSqueeze$Squeezer" 15 "ChannelSqueeze$Squeezer" "from" "[I" ∈ TW := tw_mem 297 (by decide +kernel) rfl
theorem cw_298 : Cond.fieldLink "ChannelSqueeze$Squeezer" 18 "ChannelSqueeze$Squeezer" "sequence" "[I" ∈ TW := tw_mem 298 (by decide +kernel) rfl
theorem cw_294 : Cond.fieldLink "ChannelSqueeze$Squeezer" 21 "ChannelSqueeze$Squeezer" "packer" "LChannelSqueeze$Packer;" ∈ TW := tw_mem 294 (by decide +kernel) rfl
theorem cw_336 : Cond.methodLink "ChannelSqueeze$Sites" 1 Lib.objectInit ∈ TW := tw_mem 336 (by decide +kernel) rfl
theorem cw_354 : Cond.fieldLink "ChannelSqueeze$Sites" 7 "ChannelSqueeze$Sites" "most" "I" ∈ TW := tw_mem 354 (by decide +kernel) rfl
theorem cw_337 : Cond.fieldLink "ChannelSqueeze$Sites" 13 "ChannelSqueeze$Sites" "x" "[I" ∈ TW := tw_mem 337 (by decide +kernel) rfl
theorem cw_341 : Cond.fieldLink "ChannelSqueeze$Sites" 17 "ChannelSqueeze$Sites" "y" "[I" ∈ TW := tw_mem 341 (by decide +kernel) rfl
theorem cw_345 : Cond.fieldLink "ChannelSqueeze$Sites" 20 "ChannelSqueeze$Sites" "reach" "[I" ∈ TW := tw_mem 345 (by decide +kernel) rfl
theorem cw_349 : Cond.fieldLink "ChannelSqueeze$Sites" 23 "ChannelSqueeze$Sites" "channels" "[I" ∈ TW := tw_mem 349 (by decide +kernel) rfl
theorem cw_330 : Cond.methodLink "ChannelSqueeze$Plan" 3 Lib.objectInit ∈ TW := tw_mem 330 (by decide +kernel) rfl
theorem cw_331 : Cond.classLink "ChannelSqueeze$Plan" 9 "ChannelSqueeze$Sites" ∈ TW := tw_mem 331 (by decide +kernel) rfl
theorem cw_332 : Cond.instantiable "ChannelSqueeze$Sites" 6 ∈ TW := tw_mem 332 (by decide +kernel) rfl
theorem cw_101 : Cond.initialized "ChannelSqueeze$Sites" ∈ TW := tw_mem 101 (by decide +kernel) rfl
theorem cw_333 : Cond.methodLink "ChannelSqueeze$Plan" 11 yc_Sites ∈ TW := tw_mem 333 (by decide +kernel) rfl
theorem cw_335 : Cond.code yc_Sites prog_8_method_1_code 2 none ∈ TW := tw_mem 335 (by decide +kernel) rfl
theorem cw_334 : Cond.instanceMethod yc_Sites ∈ TW := tw_mem 334 (by decide +kernel) rfl
theorem cw_376 : Cond.fieldLink "ChannelSqueeze$Plan" 14 "ChannelSqueeze$Plan" "stations" "LChannelSqueeze$Sites;" ∈ TW := tw_mem 376 (by decide +kernel) rfl
theorem cw_381 : Cond.fieldLink "ChannelSqueeze$Plan" 20 "ChannelSqueeze$Plan" "borders" "LChannelSqueeze$Sites;" ∈ TW := tw_mem 381 (by decide +kernel) rfl
theorem cw_384 : Cond.fieldLink "ChannelSqueeze$Plan" 23 "ChannelSqueeze$Plan" "toldChannel" "[I" ∈ TW := tw_mem 384 (by decide +kernel) rfl
theorem cw_387 : Cond.fieldLink "ChannelSqueeze$Plan" 27 "ChannelSqueeze$Plan" "toldWorth" "[I" ∈ TW := tw_mem 387 (by decide +kernel) rfl
theorem cw_375 : Cond.classLink "ChannelSqueeze$Plan" 30 "[[I" ∈ TW := tw_mem 375 (by decide +kernel) rfl
theorem cw_390 : Cond.fieldLink "ChannelSqueeze$Plan" 32 "ChannelSqueeze$Plan" "names" "[[I" ∈ TW := tw_mem 390 (by decide +kernel) rfl
theorem cw_393 : Cond.fieldLink "ChannelSqueeze$Plan" 35 "ChannelSqueeze$Plan" "nameLength" "[I" ∈ TW := tw_mem 393 (by decide +kernel) rfl
theorem cw_396 : Cond.fieldLink "ChannelSqueeze$Plan" 38 "ChannelSqueeze$Plan" "clash" "[I" ∈ TW := tw_mem 396 (by decide +kernel) rfl
theorem cw_399 : Cond.fieldLink "ChannelSqueeze$Plan" 41 "ChannelSqueeze$Plan" "brush" "[I" ∈ TW := tw_mem 399 (by decide +kernel) rfl
theorem cw_402 : Cond.fieldLink "ChannelSqueeze$Plan" 44 "ChannelSqueeze$Plan" "behindBorder" "[I" ∈ TW := tw_mem 402 (by decide +kernel) rfl
theorem cw_404 : Cond.fieldLink "ChannelSqueeze$Plan" 47 "ChannelSqueeze$Plan" "open" "[I" ∈ TW := tw_mem 404 (by decide +kernel) rfl
theorem j_ifge {E : EV} {R : Room} {p : Program} {e : Env} {s : State} {mid : MethodId} {args : Array Value} {below : List Frame} {meth : Method} {c : Code} {cc : ByteArray} {nL ci : Nat} {a0 : Nat} {js : Array Slot} {Z : State → Prop} {pc : Nat} {st : List Value} {n : Nat} {ws : va_W} {cells slots : Nat} {off : Int} {tgt : Nat} {x : Int32} (X : CX E p s mid args meth c cc nL ci) (hd : decode cc pc = .ok (.ifCond .ge off, 3)) (ht : (pc : Int) + off = (tgt : Int)) (hx : 0 ≤ x) (kk : Cj E R p e s mid args below meth c a0 js Z tgt st n ws cells slots) : Cj E R p e s mid args below meth c a0 js Z pc (.int x :: st) n ws cells slots := fun H locs h1 h2 => lv_if_ge X.1 X.2.1 hd ht (fun _ => kk H locs h1 h2) (fun z => absurd hx z)
def rc_Tape (E : EV) (a : Nat)  : va_W := (a, .inr (8, (nl 8).set 0 (.ref (a + 1)))) :: ([] ++ [(a + 1, .inl (eB E, (700, .inl fun _ => 0)))])
theorem ct_Tape (E : EV) (a : Nat)  : CtM E yc_Tape prog_10_method_1_code 1 [] a 8 1 (rc_Tape E a) 700 1 := by
  refine ct_of (by decide) rfl rfl ?_
  intro p e s mid below meth c js X hj
  have hl : lv_has js 1 [(0, .ref a)] := by rw [hj]; exact lv_entry [.ref a] (n := 1) (Nat.le_of_ble_eq_true rfl)
  have hjs : js.size = 1 := hl.1
  have hj0 := lv_at hl 0 rfl
  clear hj
  refine j_aload X (k := 0) (by decide +kernel) hj0 ?_
  refine j_obj X hjs cw_126 (by decide +kernel) (Nat.le_of_ble_eq_true rfl) (Nat.le_of_ble_eq_true rfl) ?_
  refine j_aload X (k := 0) (by decide +kernel) hj0 ?_
  refine j_sipush X (v := 700) (x := nI 700) (by decide +kernel) (by decide) ?_
  refine j_newa X (x := nI 700) (N := 700) (t0 := 1) (cA := eB E) (ty := .byte) (atype := .byte) (a1 := (700, .inl fun _ => 0)) rfl cw_135 rfl rfl (fun _ h => h) (by decide) (by decide) (by decide) (Nat.le_of_ble_eq_true rfl) (Nat.le_of_ble_eq_true rfl) (by decide +kernel) ?_
  refine j_put X (k := 0) (ix := 9) (v := .ref (a + 1)) (by decide) (by decide) (by simp only [List.length_set, nl_len]) rfl cw_127 rfl rfl (by decide +kernel) ?_
  exact j_ret X (by decide +kernel)
def rc_Reader (E : EV) (a : Nat) (x : Nat) : va_W := (a, .inr (5, (nl 5).set 0 (.ref x))) :: ([])
theorem ct_Reader (E : EV) (a : Nat) (x : Nat) : CtM E yc_Reader prog_7_method_1_code 2 [.ref x] a 5 0 (rc_Reader E a x) 0 1 := by
  refine ct_of (by decide) rfl rfl ?_
  intro p e s mid below meth c js X hj
  have hl : lv_has js 2 [(0, .ref a), (1, .ref x)] := by rw [hj]; exact lv_entry [.ref a, .ref x] (n := 2) (Nat.le_of_ble_eq_true rfl)
  have hjs : js.size = 2 := hl.1
  have hj0 := lv_at hl 0 rfl
  have hj1 := lv_at hl 1 rfl
  clear hj
  refine j_aload X (k := 0) (by decide +kernel) hj0 ?_
  refine j_obj X hjs cw_141 (by decide +kernel) (Nat.le_of_ble_eq_true rfl) (Nat.le_of_ble_eq_true rfl) ?_
  refine j_aload X (k := 0) (by decide +kernel) hj0 ?_
  refine j_aload X (k := 1) (by decide +kernel) hj1 ?_
  refine j_put X (k := 0) (ix := 9) (v := .ref x) (by decide) (by decide) (by simp only [List.length_set, nl_len]) rfl cw_142 rfl rfl (by decide +kernel) ?_
  exact j_ret X (by decide +kernel)
def rc_Now (E : EV) (a : Nat)  : va_W := (a, .inr (2, (((nl 2).set 0 (.ref (a + 1))).set 1 (.ref (a + 2))).set 2 (.ref (a + 3)))) :: ([] ++ [(a + 1, .inl (eI E, (8, .inl fun _ => 0)))] ++ [(a + 2, .inl (eI E, (8, .inl fun _ => 0)))] ++ [(a + 3, .inl (eI E, (8, .inl fun _ => 0)))])
theorem ct_Now (E : EV) (a : Nat)  : CtM E yc_Now prog_4_method_1_code 1 [] a 2 3 (rc_Now E a) 24 1 := by
  refine ct_of (by decide) rfl rfl ?_
  intro p e s mid below meth c js X hj
  have hl : lv_has js 1 [(0, .ref a)] := by rw [hj]; exact lv_entry [.ref a] (n := 1) (Nat.le_of_ble_eq_true rfl)
  have hjs : js.size = 1 := hl.1
  have hj0 := lv_at hl 0 rfl
  clear hj
  refine j_aload X (k := 0) (by decide +kernel) hj0 ?_
  refine j_obj X hjs cw_177 (by decide +kernel) (Nat.le_of_ble_eq_true rfl) (Nat.le_of_ble_eq_true rfl) ?_
  refine j_aload X (k := 0) (by decide +kernel) hj0 ?_
  refine j_bipush X (v := 8) (x := nI 8) (by decide +kernel) (by decide) ?_
  refine j_newa X (x := nI 8) (N := 8) (t0 := 0) (cA := eI E) (ty := .int) (atype := .int) (a1 := (8, .inl fun _ => 0)) rfl cw_203 rfl rfl (fun _ h => h) (by decide) (by decide) (by decide) (Nat.le_of_ble_eq_true rfl) (Nat.le_of_ble_eq_true rfl) (by decide +kernel) ?_
  refine j_put X (k := 0) (ix := 9) (v := .ref (a + 1)) (by decide) (by decide) (by simp only [List.length_set, nl_len]) rfl cw_178 rfl rfl (by decide +kernel) ?_
  refine j_aload X (k := 0) (by decide +kernel) hj0 ?_
  refine j_bipush X (v := 8) (x := nI 8) (by decide +kernel) (by decide) ?_
  refine j_newa X (x := nI 8) (N := 8) (t0 := 0) (cA := eI E) (ty := .int) (atype := .int) (a1 := (8, .inl fun _ => 0)) rfl cw_203 rfl rfl (fun _ h => h) (by decide) (by decide) (by decide) (Nat.le_of_ble_eq_true rfl) (Nat.le_of_ble_eq_true rfl) (by decide +kernel) ?_
  refine j_put X (k := 1) (ix := 15) (v := .ref (a + 2)) (by decide) (by decide) (by simp only [List.length_set, nl_len]) rfl cw_181 rfl rfl (by decide +kernel) ?_
  refine j_aload X (k := 0) (by decide +kernel) hj0 ?_
  refine j_bipush X (v := 8) (x := nI 8) (by decide +kernel) (by decide) ?_
  refine j_newa X (x := nI 8) (N := 8) (t0 := 0) (cA := eI E) (ty := .int) (atype := .int) (a1 := (8, .inl fun _ => 0)) rfl cw_203 rfl rfl (fun _ h => h) (by decide) (by decide) (by decide) (Nat.le_of_ble_eq_true rfl) (Nat.le_of_ble_eq_true rfl) (by decide +kernel) ?_
  refine j_put X (k := 2) (ix := 18) (v := .ref (a + 3)) (by decide) (by decide) (by simp only [List.length_set, nl_len]) rfl cw_184 rfl rfl (by decide +kernel) ?_
  exact j_ret X (by decide +kernel)
def rc_History (E : EV) (a : Nat)  : va_W := (a, .inr (0, (nl 0).set 0 (.ref (a + 1)))) :: ([] ++ rowsW E (a + 1) 10 26)
theorem ct_History (E : EV) (a : Nat)  : CtM E yc_History prog_2_method_1_code 1 [] a 0 11 (rc_History E a) 270 1 := by
  refine ct_of (by decide) rfl rfl ?_
  intro p e s mid below meth c js X hj
  have hl : lv_has js 1 [(0, .ref a)] := by rw [hj]; exact lv_entry [.ref a] (n := 1) (Nat.le_of_ble_eq_true rfl)
  have hjs : js.size = 1 := hl.1
  have hj0 := lv_at hl 0 rfl
  clear hj
  refine j_aload X (k := 0) (by decide +kernel) hj0 ?_
  refine j_obj X hjs cw_209 (by decide +kernel) (Nat.le_of_ble_eq_true rfl) (Nat.le_of_ble_eq_true rfl) ?_
  refine j_aload X (k := 0) (by decide +kernel) hj0 ?_
  refine j_bipush X (v := 10) (x := nI 10) (by decide +kernel) (by decide) ?_
  refine j_bipush X (v := 26) (x := nI 26) (by decide +kernel) (by decide) ?_
  refine j_multi X (N := 10) (M := 26) (x := nI 10) (y := nI 26) cw_210 (by decide) (by decide) (by decide) (by decide) (Nat.le_of_ble_eq_true rfl) (Nat.le_of_ble_eq_true rfl) (Nat.le_of_ble_eq_true rfl) (Nat.le_of_ble_eq_true rfl) (by decide +kernel) ?_
  refine j_put X (k := 0) (ix := 13) (v := .ref (a + 1)) (by decide) (by decide) (by simp only [List.length_set, nl_len]) rfl cw_212 rfl rfl (by decide +kernel) ?_
  exact j_ret X (by decide +kernel)
def rc_Packer (E : EV) (a : Nat)  : va_W := (a, .inr (3, ((((((nl 3).set 0 (.ref (a + 1))).set 1 (.ref (a + 2))).set 2 (.ref (a + 3))).set 3 (.ref (a + 4))).set 4 (.ref (a + 14))).set 5 (.ref (a + 15)))) :: ([] ++ [(a + 1, .inl (eI E, (8, .inl fun _ => 0)))] ++ [(a + 2, .inl (eI E, (8, .inl fun _ => 0)))] ++ [(a + 3, .inl (eI E, (8, .inl fun _ => 0)))] ++ rowsW E (a + 4) 9 8 ++ [(a + 14, .inl (eI E, (2816, .inl fun _ => 0)))] ++ [(a + 15, .inl (eI E, (256, .inl fun _ => 0)))])
theorem ct_Packer (E : EV) (a : Nat)  : CtM E yc_Packer prog_5_method_1_code 1 [] a 3 15 (rc_Packer E a) 3177 1 := by
  refine ct_of (by decide) rfl rfl ?_
  intro p e s mid below meth c js X hj
  have hl : lv_has js 1 [(0, .ref a)] := by rw [hj]; exact lv_entry [.ref a] (n := 1) (Nat.le_of_ble_eq_true rfl)
  have hjs : js.size = 1 := hl.1
  have hj0 := lv_at hl 0 rfl
  clear hj
  refine j_aload X (k := 0) (by decide +kernel) hj0 ?_
  refine j_obj X hjs cw_229 (by decide +kernel) (Nat.le_of_ble_eq_true rfl) (Nat.le_of_ble_eq_true rfl) ?_
  refine j_aload X (k := 0) (by decide +kernel) hj0 ?_
  refine j_bipush X (v := 8) (x := nI 8) (by decide +kernel) (by decide) ?_
  refine j_newa X (x := nI 8) (N := 8) (t0 := 0) (cA := eI E) (ty := .int) (atype := .int) (a1 := (8, .inl fun _ => 0)) rfl cw_203 rfl rfl (fun _ h => h) (by decide) (by decide) (by decide) (Nat.le_of_ble_eq_true rfl) (Nat.le_of_ble_eq_true rfl) (by decide +kernel) ?_
  refine j_put X (k := 0) (ix := 9) (v := .ref (a + 1)) (by decide) (by decide) (by simp only [List.length_set, nl_len]) rfl cw_231 rfl rfl (by decide +kernel) ?_
  refine j_aload X (k := 0) (by decide +kernel) hj0 ?_
  refine j_bipush X (v := 8) (x := nI 8) (by decide +kernel) (by decide) ?_
  refine j_newa X (x := nI 8) (N := 8) (t0 := 0) (cA := eI E) (ty := .int) (atype := .int) (a1 := (8, .inl fun _ => 0)) rfl cw_203 rfl rfl (fun _ h => h) (by decide) (by decide) (by decide) (Nat.le_of_ble_eq_true rfl) (Nat.le_of_ble_eq_true rfl) (by decide +kernel) ?_
  refine j_put X (k := 1) (ix := 15) (v := .ref (a + 2)) (by decide) (by decide) (by simp only [List.length_set, nl_len]) rfl cw_232 rfl rfl (by decide +kernel) ?_
  refine j_aload X (k := 0) (by decide +kernel) hj0 ?_
  refine j_bipush X (v := 8) (x := nI 8) (by decide +kernel) (by decide) ?_
  refine j_newa X (x := nI 8) (N := 8) (t0 := 0) (cA := eI E) (ty := .int) (atype := .int) (a1 := (8, .inl fun _ => 0)) rfl cw_203 rfl rfl (fun _ h => h) (by decide) (by decide) (by decide) (Nat.le_of_ble_eq_true rfl) (Nat.le_of_ble_eq_true rfl) (by decide +kernel) ?_
  refine j_put X (k := 2) (ix := 18) (v := .ref (a + 3)) (by decide) (by decide) (by simp only [List.length_set, nl_len]) rfl cw_233 rfl rfl (by decide +kernel) ?_
  refine j_aload X (k := 0) (by decide +kernel) hj0 ?_
  refine j_bipush X (v := 9) (x := nI 9) (by decide +kernel) (by decide) ?_
  refine j_bipush X (v := 8) (x := nI 8) (by decide +kernel) (by decide) ?_
  refine j_multi X (N := 9) (M := 8) (x := nI 9) (y := nI 8) cw_230 (by decide) (by decide) (by decide) (by decide) (Nat.le_of_ble_eq_true rfl) (Nat.le_of_ble_eq_true rfl) (Nat.le_of_ble_eq_true rfl) (Nat.le_of_ble_eq_true rfl) (by decide +kernel) ?_
  refine j_put X (k := 3) (ix := 23) (v := .ref (a + 4)) (by decide) (by decide) (by simp only [List.length_set, nl_len]) rfl cw_234 rfl rfl (by decide +kernel) ?_
  refine j_aload X (k := 0) (by decide +kernel) hj0 ?_
  refine j_sipush X (v := 2816) (x := nI 2816) (by decide +kernel) (by decide) ?_
  refine j_newa X (x := nI 2816) (N := 2816) (t0 := 0) (cA := eI E) (ty := .int) (atype := .int) (a1 := (2816, .inl fun _ => 0)) rfl cw_203 rfl rfl (fun _ h => h) (by decide) (by decide) (by decide) (Nat.le_of_ble_eq_true rfl) (Nat.le_of_ble_eq_true rfl) (by decide +kernel) ?_
  refine j_put X (k := 4) (ix := 26) (v := .ref (a + 14)) (by decide) (by decide) (by simp only [List.length_set, nl_len]) rfl cw_236 rfl rfl (by decide +kernel) ?_
  refine j_aload X (k := 0) (by decide +kernel) hj0 ?_
  refine j_sipush X (v := 256) (x := nI 256) (by decide +kernel) (by decide) ?_
  refine j_newa X (x := nI 256) (N := 256) (t0 := 0) (cA := eI E) (ty := .int) (atype := .int) (a1 := (256, .inl fun _ => 0)) rfl cw_203 rfl rfl (fun _ h => h) (by decide) (by decide) (by decide) (Nat.le_of_ble_eq_true rfl) (Nat.le_of_ble_eq_true rfl) (by decide +kernel) ?_
  refine j_put X (k := 5) (ix := 29) (v := .ref (a + 15)) (by decide) (by decide) (by simp only [List.length_set, nl_len]) rfl cw_237 rfl rfl (by decide +kernel) ?_
  exact j_ret X (by decide +kernel)
def rc_Market (E : EV) (a : Nat) (x : Nat) : va_W := (a, .inr (1, ((nl 1).set 1 (.ref (a + 1))).set 0 (.ref x))) :: ([] ++ [(a + 1, .inl (eI E, (8, .inl fun _ => 0)))])
theorem ct_Market (E : EV) (a : Nat) (x : Nat) : CtM E yc_Market prog_3_method_1_code 2 [.ref x] a 1 1 (rc_Market E a x) 8 1 := by
  refine ct_of (by decide) rfl rfl ?_
  intro p e s mid below meth c js X hj
  have hl : lv_has js 2 [(0, .ref a), (1, .ref x)] := by rw [hj]; exact lv_entry [.ref a, .ref x] (n := 2) (Nat.le_of_ble_eq_true rfl)
  have hjs : js.size = 2 := hl.1
  have hj0 := lv_at hl 0 rfl
  have hj1 := lv_at hl 1 rfl
  clear hj
  refine j_aload X (k := 0) (by decide +kernel) hj0 ?_
  refine j_obj X hjs cw_263 (by decide +kernel) (Nat.le_of_ble_eq_true rfl) (Nat.le_of_ble_eq_true rfl) ?_
  refine j_aload X (k := 0) (by decide +kernel) hj0 ?_
  refine j_bipush X (v := 8) (x := nI 8) (by decide +kernel) (by decide) ?_
  refine j_newa X (x := nI 8) (N := 8) (t0 := 0) (cA := eI E) (ty := .int) (atype := .int) (a1 := (8, .inl fun _ => 0)) rfl cw_203 rfl rfl (fun _ h => h) (by decide) (by decide) (by decide) (Nat.le_of_ble_eq_true rfl) (Nat.le_of_ble_eq_true rfl) (by decide +kernel) ?_
  refine j_put X (k := 1) (ix := 9) (v := .ref (a + 1)) (by decide) (by decide) (by simp only [List.length_set, nl_len]) rfl cw_265 rfl rfl (by decide +kernel) ?_
  refine j_aload X (k := 0) (by decide +kernel) hj0 ?_
  refine j_aload X (k := 1) (by decide +kernel) hj1 ?_
  refine j_put X (k := 0) (ix := 15) (v := .ref x) (by decide) (by decide) (by simp only [List.length_set, nl_len]) rfl cw_264 rfl rfl (by decide +kernel) ?_
  exact j_ret X (by decide +kernel)
def rc_Squeezer (E : EV) (a : Nat) (x : Nat) : va_W := (a, .inr (7, ((((nl 7).set 1 (.ref (a + 1))).set 2 (.ref (a + 2))).set 3 (.ref (a + 3))).set 0 (.ref x))) :: ([] ++ [(a + 1, .inl (eI E, (8, .inl fun _ => 0)))] ++ [(a + 2, .inl (eI E, (8, .inl fun _ => 0)))] ++ [(a + 3, .inl (eI E, (8, .inl fun _ => 0)))])
theorem ct_Squeezer (E : EV) (a : Nat) (x : Nat) : CtM E yc_Squeezer prog_9_method_1_code 2 [.ref x] a 7 3 (rc_Squeezer E a x) 24 1 := by
  refine ct_of (by decide) rfl rfl ?_
  intro p e s mid below meth c js X hj
  have hl : lv_has js 2 [(0, .ref a), (1, .ref x)] := by rw [hj]; exact lv_entry [.ref a, .ref x] (n := 2) (Nat.le_of_ble_eq_true rfl)
  have hjs : js.size = 2 := hl.1
  have hj0 := lv_at hl 0 rfl
  have hj1 := lv_at hl 1 rfl
  clear hj
  refine j_aload X (k := 0) (by decide +kernel) hj0 ?_
  refine j_obj X hjs cw_293 (by decide +kernel) (Nat.le_of_ble_eq_true rfl) (Nat.le_of_ble_eq_true rfl) ?_
  refine j_aload X (k := 0) (by decide +kernel) hj0 ?_
  refine j_bipush X (v := 8) (x := nI 8) (by decide +kernel) (by decide) ?_
  refine j_newa X (x := nI 8) (N := 8) (t0 := 0) (cA := eI E) (ty := .int) (atype := .int) (a1 := (8, .inl fun _ => 0)) rfl cw_203 rfl rfl (fun _ h => h) (by decide) (by decide) (by decide) (Nat.le_of_ble_eq_true rfl) (Nat.le_of_ble_eq_true rfl) (by decide +kernel) ?_
  refine j_put X (k := 1) (ix := 9) (v := .ref (a + 1)) (by decide) (by decide) (by simp only [List.length_set, nl_len]) rfl cw_295 rfl rfl (by decide +kernel) ?_
  refine j_aload X (k := 0) (by decide +kernel) hj0 ?_
  refine j_bipush X (v := 8) (x := nI 8) (by decide +kernel) (by decide) ?_
  refine j_newa X (x := nI 8) (N := 8) (t0 := 0) (cA := eI E) (ty := .int) (atype := .int) (a1 := (8, .inl fun _ => 0)) rfl cw_203 rfl rfl (fun _ h => h) (by decide) (by decide) (by decide) (Nat.le_of_ble_eq_true rfl) (Nat.le_of_ble_eq_true rfl) (by decide +kernel) ?_
  refine j_put X (k := 2) (ix := 15) (v := .ref (a + 2)) (by decide) (by decide) (by simp only [List.length_set, nl_len]) rfl cw_297 rfl rfl (by decide +kernel) ?_
  refine j_aload X (k := 0) (by decide +kernel) hj0 ?_
  refine j_bipush X (v := 8) (x := nI 8) (by decide +kernel) (by decide) ?_
  refine j_newa X (x := nI 8) (N := 8) (t0 := 0) (cA := eI E) (ty := .int) (atype := .int) (a1 := (8, .inl fun _ => 0)) rfl cw_203 rfl rfl (fun _ h => h) (by decide) (by decide) (by decide) (Nat.le_of_ble_eq_true rfl) (Nat.le_of_ble_eq_true rfl) (by decide +kernel) ?_
  refine j_put X (k := 3) (ix := 18) (v := .ref (a + 3)) (by decide) (by decide) (by simp only [List.length_set, nl_len]) rfl cw_298 rfl rfl (by decide +kernel) ?_
  refine j_aload X (k := 0) (by decide +kernel) hj0 ?_
  refine j_aload X (k := 1) (by decide +kernel) hj1 ?_
  refine j_put X (k := 0) (ix := 21) (v := .ref x) (by decide) (by decide) (by simp only [List.length_set, nl_len]) rfl cw_294 rfl rfl (by decide +kernel) ?_
  exact j_ret X (by decide +kernel)
def rc_Sites8 (E : EV) (a : Nat)  : va_W := (a, .inr (6, (((((nl 6).set 4 (.int (nI 8))).set 0 (.ref (a + 1))).set 1 (.ref (a + 2))).set 2 (.ref (a + 3))).set 3 (.ref (a + 4)))) :: ([] ++ [(a + 1, .inl (eI E, (8, .inl fun _ => 0)))] ++ [(a + 2, .inl (eI E, (8, .inl fun _ => 0)))] ++ [(a + 3, .inl (eI E, (8, .inl fun _ => 0)))] ++ [(a + 4, .inl (eI E, (8, .inl fun _ => 0)))])
theorem ct_Sites8 (E : EV) (a : Nat)  : CtM E yc_Sites prog_8_method_1_code 2 [.int (nI 8)] a 6 4 (rc_Sites8 E a) 32 1 := by
  refine ct_of (by decide) rfl rfl ?_
  intro p e s mid below meth c js X hj
  have hl : lv_has js 2 [(0, .ref a), (1, .int (nI 8))] := by rw [hj]; exact lv_entry [.ref a, .int (nI 8)] (n := 2) (Nat.le_of_ble_eq_true rfl)
  have hjs : js.size = 2 := hl.1
  have hj0 := lv_at hl 0 rfl
  have hj1 := lv_at hl 1 rfl
  clear hj
  refine j_aload X (k := 0) (by decide +kernel) hj0 ?_
  refine j_obj X hjs cw_336 (by decide +kernel) (Nat.le_of_ble_eq_true rfl) (Nat.le_of_ble_eq_true rfl) ?_
  refine j_aload X (k := 0) (by decide +kernel) hj0 ?_
  refine j_iload X (k := 1) (by decide +kernel) hj1 ?_
  refine j_ifge X (off := 7) (tgt := 13) (by decide +kernel) rfl (by decide) ?_
  refine j_iload X (k := 1) (by decide +kernel) hj1 ?_
  refine j_put X (k := 4) (ix := 7) (v := .int (nI 8)) (by decide) (by decide) (by simp only [List.length_set, nl_len]) rfl cw_354 rfl rfl (by decide +kernel) ?_
  refine j_aload X (k := 0) (by decide +kernel) hj0 ?_
  refine j_aload X (k := 0) (by decide +kernel) hj0 ?_
  refine j_get X (k := 4) (ix := 7) (v := .int (nI 8)) rfl (by decide) (by decide) rfl cw_354 rfl (by decide +kernel) ?_
  refine j_newa X (x := nI 8) (N := 8) (t0 := 0) (cA := eI E) (ty := .int) (atype := .int) (a1 := (8, .inl fun _ => 0)) rfl cw_203 rfl rfl (fun _ h => h) (by decide) (by decide) (by decide) (Nat.le_of_ble_eq_true rfl) (Nat.le_of_ble_eq_true rfl) (by decide +kernel) ?_
  refine j_put X (k := 0) (ix := 13) (v := .ref (a + 1)) (by decide) (by decide) (by simp only [List.length_set, nl_len]) rfl cw_337 rfl rfl (by decide +kernel) ?_
  refine j_aload X (k := 0) (by decide +kernel) hj0 ?_
  refine j_aload X (k := 0) (by decide +kernel) hj0 ?_
  refine j_get X (k := 4) (ix := 7) (v := .int (nI 8)) rfl (by decide) (by decide) rfl cw_354 rfl (by decide +kernel) ?_
  refine j_newa X (x := nI 8) (N := 8) (t0 := 0) (cA := eI E) (ty := .int) (atype := .int) (a1 := (8, .inl fun _ => 0)) rfl cw_203 rfl rfl (fun _ h => h) (by decide) (by decide) (by decide) (Nat.le_of_ble_eq_true rfl) (Nat.le_of_ble_eq_true rfl) (by decide +kernel) ?_
  refine j_put X (k := 1) (ix := 17) (v := .ref (a + 2)) (by decide) (by decide) (by simp only [List.length_set, nl_len]) rfl cw_341 rfl rfl (by decide +kernel) ?_
  refine j_aload X (k := 0) (by decide +kernel) hj0 ?_
  refine j_aload X (k := 0) (by decide +kernel) hj0 ?_
  refine j_get X (k := 4) (ix := 7) (v := .int (nI 8)) rfl (by decide) (by decide) rfl cw_354 rfl (by decide +kernel) ?_
  refine j_newa X (x := nI 8) (N := 8) (t0 := 0) (cA := eI E) (ty := .int) (atype := .int) (a1 := (8, .inl fun _ => 0)) rfl cw_203 rfl rfl (fun _ h => h) (by decide) (by decide) (by decide) (Nat.le_of_ble_eq_true rfl) (Nat.le_of_ble_eq_true rfl) (by decide +kernel) ?_
  refine j_put X (k := 2) (ix := 20) (v := .ref (a + 3)) (by decide) (by decide) (by simp only [List.length_set, nl_len]) rfl cw_345 rfl rfl (by decide +kernel) ?_
  refine j_aload X (k := 0) (by decide +kernel) hj0 ?_
  refine j_aload X (k := 0) (by decide +kernel) hj0 ?_
  refine j_get X (k := 4) (ix := 7) (v := .int (nI 8)) rfl (by decide) (by decide) rfl cw_354 rfl (by decide +kernel) ?_
  refine j_newa X (x := nI 8) (N := 8) (t0 := 0) (cA := eI E) (ty := .int) (atype := .int) (a1 := (8, .inl fun _ => 0)) rfl cw_203 rfl rfl (fun _ h => h) (by decide) (by decide) (by decide) (Nat.le_of_ble_eq_true rfl) (Nat.le_of_ble_eq_true rfl) (by decide +kernel) ?_
  refine j_put X (k := 3) (ix := 23) (v := .ref (a + 4)) (by decide) (by decide) (by simp only [List.length_set, nl_len]) rfl cw_349 rfl rfl (by decide +kernel) ?_
  exact j_ret X (by decide +kernel)
def rc_Sites4 (E : EV) (a : Nat)  : va_W := (a, .inr (6, (((((nl 6).set 4 (.int (nI 4))).set 0 (.ref (a + 1))).set 1 (.ref (a + 2))).set 2 (.ref (a + 3))).set 3 (.ref (a + 4)))) :: ([] ++ [(a + 1, .inl (eI E, (4, .inl fun _ => 0)))] ++ [(a + 2, .inl (eI E, (4, .inl fun _ => 0)))] ++ [(a + 3, .inl (eI E, (4, .inl fun _ => 0)))] ++ [(a + 4, .inl (eI E, (4, .inl fun _ => 0)))])
theorem ct_Sites4 (E : EV) (a : Nat)  : CtM E yc_Sites prog_8_method_1_code 2 [.int (nI 4)] a 6 4 (rc_Sites4 E a) 16 1 := by
  refine ct_of (by decide) rfl rfl ?_
  intro p e s mid below meth c js X hj
  have hl : lv_has js 2 [(0, .ref a), (1, .int (nI 4))] := by rw [hj]; exact lv_entry [.ref a, .int (nI 4)] (n := 2) (Nat.le_of_ble_eq_true rfl)
  have hjs : js.size = 2 := hl.1
  have hj0 := lv_at hl 0 rfl
  have hj1 := lv_at hl 1 rfl
  clear hj
  refine j_aload X (k := 0) (by decide +kernel) hj0 ?_
  refine j_obj X hjs cw_336 (by decide +kernel) (Nat.le_of_ble_eq_true rfl) (Nat.le_of_ble_eq_true rfl) ?_
  refine j_aload X (k := 0) (by decide +kernel) hj0 ?_
  refine j_iload X (k := 1) (by decide +kernel) hj1 ?_
  refine j_ifge X (off := 7) (tgt := 13) (by decide +kernel) rfl (by decide) ?_
  refine j_iload X (k := 1) (by decide +kernel) hj1 ?_
  refine j_put X (k := 4) (ix := 7) (v := .int (nI 4)) (by decide) (by decide) (by simp only [List.length_set, nl_len]) rfl cw_354 rfl rfl (by decide +kernel) ?_
  refine j_aload X (k := 0) (by decide +kernel) hj0 ?_
  refine j_aload X (k := 0) (by decide +kernel) hj0 ?_
  refine j_get X (k := 4) (ix := 7) (v := .int (nI 4)) rfl (by decide) (by decide) rfl cw_354 rfl (by decide +kernel) ?_
  refine j_newa X (x := nI 4) (N := 4) (t0 := 0) (cA := eI E) (ty := .int) (atype := .int) (a1 := (4, .inl fun _ => 0)) rfl cw_203 rfl rfl (fun _ h => h) (by decide) (by decide) (by decide) (Nat.le_of_ble_eq_true rfl) (Nat.le_of_ble_eq_true rfl) (by decide +kernel) ?_
  refine j_put X (k := 0) (ix := 13) (v := .ref (a + 1)) (by decide) (by decide) (by simp only [List.length_set, nl_len]) rfl cw_337 rfl rfl (by decide +kernel) ?_
  refine j_aload X (k := 0) (by decide +kernel) hj0 ?_
  refine j_aload X (k := 0) (by decide +kernel) hj0 ?_
  refine j_get X (k := 4) (ix := 7) (v := .int (nI 4)) rfl (by decide) (by decide) rfl cw_354 rfl (by decide +kernel) ?_
  refine j_newa X (x := nI 4) (N := 4) (t0 := 0) (cA := eI E) (ty := .int) (atype := .int) (a1 := (4, .inl fun _ => 0)) rfl cw_203 rfl rfl (fun _ h => h) (by decide) (by decide) (by decide) (Nat.le_of_ble_eq_true rfl) (Nat.le_of_ble_eq_true rfl) (by decide +kernel) ?_
  refine j_put X (k := 1) (ix := 17) (v := .ref (a + 2)) (by decide) (by decide) (by simp only [List.length_set, nl_len]) rfl cw_341 rfl rfl (by decide +kernel) ?_
  refine j_aload X (k := 0) (by decide +kernel) hj0 ?_
  refine j_aload X (k := 0) (by decide +kernel) hj0 ?_
  refine j_get X (k := 4) (ix := 7) (v := .int (nI 4)) rfl (by decide) (by decide) rfl cw_354 rfl (by decide +kernel) ?_
  refine j_newa X (x := nI 4) (N := 4) (t0 := 0) (cA := eI E) (ty := .int) (atype := .int) (a1 := (4, .inl fun _ => 0)) rfl cw_203 rfl rfl (fun _ h => h) (by decide) (by decide) (by decide) (Nat.le_of_ble_eq_true rfl) (Nat.le_of_ble_eq_true rfl) (by decide +kernel) ?_
  refine j_put X (k := 2) (ix := 20) (v := .ref (a + 3)) (by decide) (by decide) (by simp only [List.length_set, nl_len]) rfl cw_345 rfl rfl (by decide +kernel) ?_
  refine j_aload X (k := 0) (by decide +kernel) hj0 ?_
  refine j_aload X (k := 0) (by decide +kernel) hj0 ?_
  refine j_get X (k := 4) (ix := 7) (v := .int (nI 4)) rfl (by decide) (by decide) rfl cw_354 rfl (by decide +kernel) ?_
  refine j_newa X (x := nI 4) (N := 4) (t0 := 0) (cA := eI E) (ty := .int) (atype := .int) (a1 := (4, .inl fun _ => 0)) rfl cw_203 rfl rfl (fun _ h => h) (by decide) (by decide) (by decide) (Nat.le_of_ble_eq_true rfl) (Nat.le_of_ble_eq_true rfl) (by decide +kernel) ?_
  refine j_put X (k := 3) (ix := 23) (v := .ref (a + 4)) (by decide) (by decide) (by simp only [List.length_set, nl_len]) rfl cw_349 rfl rfl (by decide +kernel) ?_
  exact j_ret X (by decide +kernel)
def rc_Plan (E : EV) (a : Nat)  : va_W := (a, .inr (4, ((((((((((nl 4).set 0 (.ref (a + 1))).set 1 (.ref (a + 6))).set 2 (.ref (a + 11))).set 3 (.ref (a + 12))).set 4 (.ref (a + 13))).set 5 (.ref (a + 22))).set 6 (.ref (a + 23))).set 7 (.ref (a + 24))).set 8 (.ref (a + 25))).set 9 (.ref (a + 26)))) :: ([] ++ rc_Sites8 E (a + 1) ++ rc_Sites4 E (a + 6) ++ [(a + 11, .inl (eI E, (8, .inl fun _ => 0)))] ++ [(a + 12, .inl (eI E, (8, .inl fun _ => 0)))] ++ rowsW E (a + 13) 8 8 ++ [(a + 22, .inl (eI E, (8, .inl fun _ => 0)))] ++ [(a + 23, .inl (eI E, (8, .inl fun _ => 0)))] ++ [(a + 24, .inl (eI E, (8, .inl fun _ => 0)))] ++ [(a + 25, .inl (eI E, (4, .inl fun _ => 0)))] ++ [(a + 26, .inl (eI E, (8, .inl fun _ => 0)))])
theorem ct_Plan (E : EV) (a : Nat)  : CtM E yc_Plan prog_6_method_1_code 1 [] a 4 26 (rc_Plan E a) 184 2 := by
  refine ct_of (by decide) rfl rfl ?_
  intro p e s mid below meth c js X hj
  have hl : lv_has js 1 [(0, .ref a)] := by rw [hj]; exact lv_entry [.ref a] (n := 1) (Nat.le_of_ble_eq_true rfl)
  have hjs : js.size = 1 := hl.1
  have hj0 := lv_at hl 0 rfl
  clear hj
  refine j_aload X (k := 0) (by decide +kernel) hj0 ?_
  refine j_obj X hjs cw_330 (by decide +kernel) (Nat.le_of_ble_eq_true rfl) (Nat.le_of_ble_eq_true rfl) ?_
  refine j_aload X (k := 0) (by decide +kernel) hj0 ?_
  refine j_new X (cj := 6) (by decide) cw_331 cw_332 cw_101 (Nat.le_of_ble_eq_true rfl) (Nat.le_of_ble_eq_true rfl) (by decide +kernel) ?_
  refine j_dup X (by decide +kernel) ?_
  refine j_bipush X (v := 8) (x := nI 8) (by decide +kernel) (by decide) ?_
  refine j_callP X hjs (na := 1) (As := [.int (nI 8)]) (ct_Sites8 E (a + 1)) cw_333 cw_335 cw_101 cw_334 rfl rfl (by decide +kernel) ⟨(Nat.le_of_ble_eq_true rfl), (Nat.le_of_ble_eq_true rfl)⟩ (Nat.le_of_ble_eq_true rfl) (Nat.le_of_ble_eq_true rfl) (Nat.le_of_ble_eq_true rfl) (by decide +kernel) ?_
  refine j_put X (k := 0) (ix := 14) (v := .ref (a + 1)) (by decide) (by decide) (by simp only [List.length_set, nl_len]) rfl cw_376 rfl rfl (by decide +kernel) ?_
  refine j_aload X (k := 0) (by decide +kernel) hj0 ?_
  refine j_new X (cj := 6) (by decide) cw_331 cw_332 cw_101 (Nat.le_of_ble_eq_true rfl) (Nat.le_of_ble_eq_true rfl) (by decide +kernel) ?_
  refine j_dup X (by decide +kernel) ?_
  refine j_iconst X (v := 4) (x := nI 4) (by decide +kernel) (by decide) ?_
  refine j_callP X hjs (na := 1) (As := [.int (nI 4)]) (ct_Sites4 E (a + 6)) cw_333 cw_335 cw_101 cw_334 rfl rfl (by decide +kernel) ⟨(Nat.le_of_ble_eq_true rfl), (Nat.le_of_ble_eq_true rfl)⟩ (Nat.le_of_ble_eq_true rfl) (Nat.le_of_ble_eq_true rfl) (Nat.le_of_ble_eq_true rfl) (by decide +kernel) ?_
  refine j_put X (k := 1) (ix := 20) (v := .ref (a + 6)) (by decide) (by decide) (by simp only [List.length_set, nl_len]) rfl cw_381 rfl rfl (by decide +kernel) ?_
  refine j_aload X (k := 0) (by decide +kernel) hj0 ?_
  refine j_bipush X (v := 8) (x := nI 8) (by decide +kernel) (by decide) ?_
  refine j_newa X (x := nI 8) (N := 8) (t0 := 0) (cA := eI E) (ty := .int) (atype := .int) (a1 := (8, .inl fun _ => 0)) rfl cw_203 rfl rfl (fun _ h => h) (by decide) (by decide) (by decide) (Nat.le_of_ble_eq_true rfl) (Nat.le_of_ble_eq_true rfl) (by decide +kernel) ?_
  refine j_put X (k := 2) (ix := 23) (v := .ref (a + 11)) (by decide) (by decide) (by simp only [List.length_set, nl_len]) rfl cw_384 rfl rfl (by decide +kernel) ?_
  refine j_aload X (k := 0) (by decide +kernel) hj0 ?_
  refine j_bipush X (v := 8) (x := nI 8) (by decide +kernel) (by decide) ?_
  refine j_newa X (x := nI 8) (N := 8) (t0 := 0) (cA := eI E) (ty := .int) (atype := .int) (a1 := (8, .inl fun _ => 0)) rfl cw_203 rfl rfl (fun _ h => h) (by decide) (by decide) (by decide) (Nat.le_of_ble_eq_true rfl) (Nat.le_of_ble_eq_true rfl) (by decide +kernel) ?_
  refine j_put X (k := 3) (ix := 27) (v := .ref (a + 12)) (by decide) (by decide) (by simp only [List.length_set, nl_len]) rfl cw_387 rfl rfl (by decide +kernel) ?_
  refine j_aload X (k := 0) (by decide +kernel) hj0 ?_
  refine j_bipush X (v := 8) (x := nI 8) (by decide +kernel) (by decide) ?_
  refine j_bipush X (v := 8) (x := nI 8) (by decide +kernel) (by decide) ?_
  refine j_multi X (N := 8) (M := 8) (x := nI 8) (y := nI 8) cw_375 (by decide) (by decide) (by decide) (by decide) (Nat.le_of_ble_eq_true rfl) (Nat.le_of_ble_eq_true rfl) (Nat.le_of_ble_eq_true rfl) (Nat.le_of_ble_eq_true rfl) (by decide +kernel) ?_
  refine j_put X (k := 4) (ix := 32) (v := .ref (a + 13)) (by decide) (by decide) (by simp only [List.length_set, nl_len]) rfl cw_390 rfl rfl (by decide +kernel) ?_
  refine j_aload X (k := 0) (by decide +kernel) hj0 ?_
  refine j_bipush X (v := 8) (x := nI 8) (by decide +kernel) (by decide) ?_
  refine j_newa X (x := nI 8) (N := 8) (t0 := 0) (cA := eI E) (ty := .int) (atype := .int) (a1 := (8, .inl fun _ => 0)) rfl cw_203 rfl rfl (fun _ h => h) (by decide) (by decide) (by decide) (Nat.le_of_ble_eq_true rfl) (Nat.le_of_ble_eq_true rfl) (by decide +kernel) ?_
  refine j_put X (k := 5) (ix := 35) (v := .ref (a + 22)) (by decide) (by decide) (by simp only [List.length_set, nl_len]) rfl cw_393 rfl rfl (by decide +kernel) ?_
  refine j_aload X (k := 0) (by decide +kernel) hj0 ?_
  refine j_bipush X (v := 8) (x := nI 8) (by decide +kernel) (by decide) ?_
  refine j_newa X (x := nI 8) (N := 8) (t0 := 0) (cA := eI E) (ty := .int) (atype := .int) (a1 := (8, .inl fun _ => 0)) rfl cw_203 rfl rfl (fun _ h => h) (by decide) (by decide) (by decide) (Nat.le_of_ble_eq_true rfl) (Nat.le_of_ble_eq_true rfl) (by decide +kernel) ?_
  refine j_put X (k := 6) (ix := 38) (v := .ref (a + 23)) (by decide) (by decide) (by simp only [List.length_set, nl_len]) rfl cw_396 rfl rfl (by decide +kernel) ?_
  refine j_aload X (k := 0) (by decide +kernel) hj0 ?_
  refine j_bipush X (v := 8) (x := nI 8) (by decide +kernel) (by decide) ?_
  refine j_newa X (x := nI 8) (N := 8) (t0 := 0) (cA := eI E) (ty := .int) (atype := .int) (a1 := (8, .inl fun _ => 0)) rfl cw_203 rfl rfl (fun _ h => h) (by decide) (by decide) (by decide) (Nat.le_of_ble_eq_true rfl) (Nat.le_of_ble_eq_true rfl) (by decide +kernel) ?_
  refine j_put X (k := 7) (ix := 41) (v := .ref (a + 24)) (by decide) (by decide) (by simp only [List.length_set, nl_len]) rfl cw_399 rfl rfl (by decide +kernel) ?_
  refine j_aload X (k := 0) (by decide +kernel) hj0 ?_
  refine j_iconst X (v := 4) (x := nI 4) (by decide +kernel) (by decide) ?_
  refine j_newa X (x := nI 4) (N := 4) (t0 := 0) (cA := eI E) (ty := .int) (atype := .int) (a1 := (4, .inl fun _ => 0)) rfl cw_203 rfl rfl (fun _ h => h) (by decide) (by decide) (by decide) (Nat.le_of_ble_eq_true rfl) (Nat.le_of_ble_eq_true rfl) (by decide +kernel) ?_
  refine j_put X (k := 8) (ix := 44) (v := .ref (a + 25)) (by decide) (by decide) (by simp only [List.length_set, nl_len]) rfl cw_402 rfl rfl (by decide +kernel) ?_
  refine j_aload X (k := 0) (by decide +kernel) hj0 ?_
  refine j_bipush X (v := 8) (x := nI 8) (by decide +kernel) (by decide) ?_
  refine j_newa X (x := nI 8) (N := 8) (t0 := 0) (cA := eI E) (ty := .int) (atype := .int) (a1 := (8, .inl fun _ => 0)) rfl cw_203 rfl rfl (fun _ h => h) (by decide) (by decide) (by decide) (Nat.le_of_ble_eq_true rfl) (Nat.le_of_ble_eq_true rfl) (by decide +kernel) ?_
  refine j_put X (k := 9) (ix := 47) (v := .ref (a + 26)) (by decide) (by decide) (by simp only [List.length_set, nl_len]) rfl cw_404 rfl rfl (by decide +kernel) ?_
  exact j_ret X (by decide +kernel)
