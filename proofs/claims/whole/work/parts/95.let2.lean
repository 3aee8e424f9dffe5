/-! the throw as a row; what it reads of the world beside the tables -/
def nsB : List Cond := [.declares (Bundle.initS nsR), .declares (Bundle.initS "java/lang/Exception"), .declares (Bundle.initS Bundle.tN)]
theorem nsW_b : (nsW.filter (fun w => !goodWord w)).all (fun w => decide (w ∈ nsB)) = true := by decide +kernel
theorem ns_1082 : Cond.classLink "ChannelSqueeze" 371 nsE ∈ TW := tw_mem 1096 (by decide +kernel) rfl
theorem ns_111 : Cond.initialized nsE ∈ TW := tw_mem 112 (by decide +kernel) rfl
def TK (E : EV) (U : State) : Prop := (∀ w ∈ nsB, va_Nw w U) ∧ va_Nw (.castable nsE nsE) U ∧ (∃ sa, vk_R "ChannelSqueeze" 373 "no such letter" sa U) ∧ vx_Zq Bundle.tN "UNASSIGNED_STACK" Bundle.steD (AA E) U U.heap ∧ vx_Zq Bundle.tN "SUPPRESSED_SENTINEL" Bundle.listD (AA E) U U.heap
theorem nsB_warm {s U : State} (hW : s.WarmedH U.vm) (h : ∀ w ∈ nsB, va_Nw w s) : ∀ w ∈ nsB, va_Nw w U := by
  intro w hw
  have h1 := h w hw
  simp only [nsB, List.mem_cons, List.not_mem_nil, or_false] at hw
  rcases hw with rfl | rfl | rfl <;> exact va_Nw.warmD hW h1
theorem nsB_same {s U : State} (hv : s.vm = U.vm) (h : ∀ w ∈ nsB, va_Nw w s) : ∀ w ∈ nsB, va_Nw w U := by
  intro w hw
  have h1 := h w hw
  simp only [nsB, List.mem_cons, List.not_mem_nil, or_false] at hw
  rcases hw with rfl | rfl | rfl <;> exact va_Nw.same rfl hv h1
theorem TK_warm {E : EV} {s U : State} (h : TK E s) (hW : s.WarmedH U.vm) (hq : ∀ a : Nat, a < s.heap.size → ¬ AA E a → U.heap[a]? = s.heap[a]?) : TK E U := by
  obtain ⟨h1, h2, ⟨sa, h3⟩, h4, h5⟩ := h
  exact ⟨nsB_warm hW h1, va_Nw.warmC hW h2, ⟨sa, vk_R.warm hW h3⟩, vx_Zq.moved hW.alike (vx_Zq.kept h4 hq), vx_Zq.moved hW.alike (vx_Zq.kept h5 hq)⟩
theorem TK_same {E : EV} {u U : State} (h : TK E u) (hv : u.vm = U.vm) (hh : u.heap = U.heap) : TK E U := by
  have ha : u.vm.Alike U.vm := by rw [hv]; exact Vm.Alike.refl _
  obtain ⟨h1, h2, ⟨sa, h3⟩, h4, h5⟩ := h
  rw [hh] at h4 h5
  exact ⟨nsB_same hv h1, va_Nw.same rfl hv h2, ⟨sa, vk_R.same hv.symm h3⟩, vx_Zq.moved ha h4, vx_Zq.moved ha h5⟩
theorem ns_words {args : Array Value} {s : State} (hts : ∀ w ∈ TW, w.before args s = true) (h : ∀ w ∈ nsB, va_Nw w s) : ∀ w ∈ nsW, w.before args s = true := by
  refine vx_hat (B := nsB) (fun w hw => ?_) (fun w hw => ?_) (fun w hw => ?_)
  · obtain ⟨h1, h2⟩ := List.mem_filter.mp hw
    exact hts w (tw_in (of_decide_eq_true (List.all_eq_true.mp nsW_in w h1)) h2)
  · exact of_decide_eq_true (List.all_eq_true.mp nsW_b w hw)
  · have h1 := h w hw
    simp only [nsB, List.mem_cons, List.not_mem_nil, or_false] at hw
    rcases hw with rfl | rfl | rfl <;> exact va_Nw.use rfl h1
section NT
variable {p : Program} {l : Launch} {e : Env} {R : Room} {s : State} {m : MethodId} {args : Array Value} {below : List Frame} {meth : Method} {c : Code} {H : Heap} {locs : List Loc} {cells slots : Nat}
variable {free : Addr → Prop} {ls : Array Slot} {rest : List Value} {Qd : Array Value → State → Outcome → State → Prop} {XC : String → State → State → Prop}
theorem ns_throw {E : EV} {cc : ByteArray} {pc mc ms : Nat} (hexec : p.tables.exec = Jvm.exec) (hb : c.code = cc) (hl : l.stackTraces = false)
    (hown : s.vm.findClass "ChannelSqueeze" = some m.cls) (hts : ∀ w ∈ TW, w.before args s = true) (hK : TK E s) (hS : va_S (AA E) s.heap H locs) (hsize : ls.size = c.maxLocals)
    (d0 : decode cc pc = .ok (.new 371, 3)) (d3 : decode cc (pc + 3) = .ok (.dup, 1)) (d4 : decode cc (pc + 4) = .ok (.ldc_w 373, 3)) (d7 : decode cc (pc + 7) = .ok (.invokespecial 375, 3)) (d10 : decode cc (pc + 10) = .ok (.athrow, 1))
    (hout : ∀ x ∈ c.exceptionTable.toList, covers x (pc + 10) = false)
    (hRframes : 5 < R.frames) (hRlocals : (rest.map fun v => v.category).sum + 82 ≤ R.locals) (hRcells : cells + 1 ≤ R.cells) (hRslots : slots + 6 ≤ R.slots) (hlocks : meth.locks = false)
    (hx : ∀ t : State, s.vm.Alike t.vm → H.size ≤ t.heap.size → (∀ q : Nat, q < H.size → t.heap[q]? = H[q]?) → XC nsE s t)
    (hf : ∀ z ∈ locs, free z.base) (hc : cells + 1 ≤ mc) (hs : slots + 6 ≤ ms) :
    W p l e R s m args below meth c H locs cells slots (vx_MQ below Qd XC args s mc ms free) (F0 m pc ls rest) := by
  obtain ⟨hB, -, ⟨sa, hstr⟩, hU, hN⟩ := hK
  have hat := ns_words hts hB
  intro T hT X
  have htr : e.platform.stackTraces = false := (show e.platform.stackTraces = l.stackTraces by rw [X.admits.platform]).trans hl
  have Y := vx_rebase X (R' := { frames := R.frames, locals := R.locals, cells := 1, slots := 6 }) (Nat.le_refl _) (Nat.le_refl _) hRcells hRslots
  obtain ⟨s', hA⟩ : ∃ z, z = (T.setVm s.vm).setFrames (.invoking m args :: below) := ⟨_, rfl⟩
  rw [← hA] at Y
  have hvm : s'.vm = s.vm := by rw [hA]; rfl
  have hhp : s'.heap = H := by rw [hA]; exact hT
  have hW0 : s.WarmedH s'.vm := by rw [hvm]; exact State.WarmedH.refl s
  have hat' : ∀ w ∈ nsW, w.before args s' = true := fun w hw => vx_ot_at hW0 hvm.symm (List.all_eq_true.mp nsW_ot w hw) (hat w hw)
  have hk' : (Cond.classLink "ChannelSqueeze" 371 nsE).before args s' = true := vx_ot_at hW0 hvm.symm rfl (hts _ ns_1082)
  have hini' : (Cond.initialized nsE).before args s' = true := vx_ot_at hW0 hvm.symm rfl (hts _ ns_111)
  have hU' : vx_Zq Bundle.tN "UNASSIGNED_STACK" Bundle.steD (AA E) s' s'.heap := by rw [hhp]; exact vx_Zq.moved hW0.alike (hU.kept hS.2.1)
  have hN' : vx_Zq Bundle.tN "SUPPRESSED_SENTINEL" Bundle.listD (AA E) s' s'.heap := by rw [hhp]; exact vx_Zq.moved hW0.alike (hN.kept hS.2.1)
  have h : ∀ w ∈ nsA, w.before args s' = true := vx_own hat' (vx_isRefq hU'.1) (vx_isRefq hN'.1) hU'.2.word hN'.2.word
  have hown' : s'.vm.findClass "ChannelSqueeze" = some m.cls := by rw [hvm]; exact hown
  have hins : (Cond.instantiable nsE 6).before args s' = true := h _ (by simp [nsA])
  obtain ⟨vm₁, cX, kX, hfX, hkX, -, -, X₁, st1⟩ := Y.newCold hexec (own := "ChannelSqueeze") (C := nsE) (index := 371) (n := 6) hown' hk' hins hini'
    (g := F0 m pc ls rest) rfl (by rw [hb]; exact d0) (Nat.le_refl _) (Nat.le_refl _)
  generalize hT1 : (T.setVm vm₁).pushCell { cls := cX, slots := kX.instanceTypes.map defaultValue, vm := .none } = T1 at X₁ st1
  have hcat : (Value.ref T.heap.size).category = 1 := rfl
  have hcellA : T1.heap[T.heap.size]? = some (freshCell cX kX) := by rw [← hT1]; exact State.heap_pushCell_size _ _
  have d3' : decode c.code (pc + 3) = .ok (.dup, 1) := by rw [hb]; exact d3
  have d4' : decode c.code (pc + 4) = .ok (.ldc_w 373, 3) := by rw [hb]; exact d4
  have hstr' : vk_R "ChannelSqueeze" 373 "no such letter" sa s' := vk_R.warm hW0 hstr
  obtain ⟨U, hsteps, hrun, hend, hW, hsame, ce, hce, hcv, hO⟩ := ns_ctor X₁ hexec htr hown' h (fun x hx => nomatch hx) hfX hkX hcellA (by rw [hhp, hT]; exact Nat.le_refl _) (msg := .ref sa) rfl
    (g := { method := m, pc := pc + 7, locals := ls, stack := .ref sa :: .ref T.heap.size :: .ref T.heap.size :: rest, locked := none }) rfl hsize rfl rfl (rest := rest) rfl
    (by rw [hb]; exact d7) (by rw [hb]; exact d10) hout hRframes (by simp only [List.map_cons, List.sum_cons, hcat]; omega) hlocks
  obtain ⟨f1, f2⟩ := vx_frame hsame
  rw [hhp] at f1 f2
  have hWs : s.WarmedH U.vm := State.WarmedH.trans hW0 hW
  have hcl : s.vm.findClass nsE = some ce.cls := by
    rw [hvm] at hO
    exact hO
  have hall : s.sameButNew ({ U with vm := s.vm } : State) locs mc ms := by
    subst hA
    obtain ⟨e1, e2⟩ := hsame
    rw [State.setFrames_setFrames] at e1
    have h2 : (T.setVm s.vm).sameButNew ({ U with vm := s.vm } : State) [] (0 + 1) (0 + 6) := ⟨e1, e2⟩
    have h3 := X.same.trans h2
    rw [List.append_nil] at h3
    exact h3.mono hc hs
  refine ⟨U, ?_, .threw T.heap.size, hrun, hend, Or.inr ⟨T.heap.size, rfl, nsE, ce, locs, hx U hWs.alike f1 (fun q hq => f2 q hq (fun z hz => nomatch hz)), hce, hcv, hcl, hWs, hall, hf⟩⟩
  refine st1 _ ?_
  show Steps p.tables e below (T1.setTop { method := m, pc := pc + 3, locals := ls, stack := .ref T.heap.size :: rest, locked := none }) _
  jvm_step X₁.here [X₁.here.top, hexec, d3', Value.category]
  exact X₁.ldcStringW hexec (own := "ChannelSqueeze") (text := "no such letter") (index := 373) (a := sa) hown' hstr'.1 hstr'.2
    (g := { method := m, pc := pc + 4, locals := ls, stack := .ref T.heap.size :: .ref T.heap.size :: rest, locked := none }) rfl d4' _ hsteps
end NT
