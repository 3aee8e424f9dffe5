/-! what the start gives: classes, arrays, Strings, statics -/
theorem st_inst : ∀ c, c < 11 → Cond.instantiable (clsC c) (nf c) ∈ TW := by
  intro c h
  match c, h with
  | 0, _ => exact tw_mem 205 (by decide +kernel) rfl
  | 1, _ => exact tw_mem 259 (by decide +kernel) rfl
  | 2, _ => exact tw_mem 173 (by decide +kernel) rfl
  | 3, _ => exact tw_mem 225 (by decide +kernel) rfl
  | 4, _ => exact tw_mem 326 (by decide +kernel) rfl
  | 5, _ => exact tw_mem 137 (by decide +kernel) rfl
  | 6, _ => exact tw_mem 332 (by decide +kernel) rfl
  | 7, _ => exact tw_mem 289 (by decide +kernel) rfl
  | 8, _ => exact tw_mem 122 (by decide +kernel) rfl
  | 9, _ => exact tw_mem 114 (by decide +kernel) rfl
  | 10, _ => exact tw_mem 1162 (by decide +kernel) rfl
  | c + 11, h => exact absurd h (by omega)
theorem vwCl_len : vwCl.length = 11 := rfl
theorem st_K {args : Array Value} {s : State} (hts : ∀ w ∈ TW, w.before args s = true) : ∃ D : va_G, ∀ (c : Nat) (q : vw_C), vwCl[c]? = some q → u_Kn s q.1 q.2.1 q.2.2 (D.1 c) (D.2 c) := by
  have h : ∀ c : Nat, ∃ z : ClassId × (Nat → Nat), c < 11 → u_Kn s (clsC c) (clsT c) (nf c) z.1 z.2 := by
    intro c
    by_cases hc : c < 11
    · obtain ⟨a, b, h⟩ := u_known hts (tw_lays c hc) (hts _ (st_inst c hc))
      exact ⟨(a, b), fun _ => h⟩
    · exact ⟨(0, fun _ => 0), fun h => absurd h hc⟩
  obtain ⟨f, hf⟩ := Classical.axiomOfChoice h
  refine ⟨(fun c => (f c).1, fun c => (f c).2), fun c q hq => ?_⟩
  have hc : c < 11 := by
    have h1 := (List.getElem?_eq_some_iff.mp hq).1
    rw [vwCl_len] at h1
    exact h1
  have e := Option.some.inj (hq.symm.trans (cls_at c hc))
  subst e
  exact hf c hc
theorem st_arr {args : Array Value} {s : State} {ty : FieldType} (h : (Cond.arrayClass ty).before args s = true) : ∃ cA, ArrOfT s cA ty ∧ s.vm.findClass ("[" ++ ty.toString) = some cA := by
  obtain ⟨c, k, cc, h1, h2, h3⟩ := Cond.arrayClass_spec h
  exact ⟨c, fun n z => ⟨fun k h => (by cases h), k, h2, cc, h3⟩, h1⟩
theorem st_134 : Cond.arrayClass .byte ∈ TW := tw_mem 135 (by decide +kernel) rfl
theorem st_202 : Cond.arrayClass .int ∈ TW := tw_mem 203 (by decide +kernel) rfl
theorem st_250 : Cond.arrayClass .boolean ∈ TW := tw_mem 257 (by decide +kernel) rfl
theorem st_1289 : Cond.arrayClass .long ∈ TW := tw_mem 1303 (by decide +kernel) rfl
theorem st_210 : Cond.arrayOver (.array .int) ∈ lw_tbl := List.mem_of_getElem? (i := 211) (by decide +kernel)
theorem st_nI : "[" ++ FieldType.int.toString = "[I" := by decide +kernel
theorem st_nQ : "[" ++ (FieldType.array .int).toString = "[[I" := by decide +kernel
theorem st_arrs {args : Array Value} {s : State} (hts : ∀ w ∈ TW, w.before args s = true) (h210 : (Cond.arrayOver (.array .int)).before args s = true) : ∃ (D : va_G) (cI cB cZ cJ cQ : ClassId), va_K D vwCl [(cI, .int), (cB, .byte), (cZ, .boolean), (cJ, .long), (cQ, .array .int)] s ∧ QK cQ cI s := by
  obtain ⟨D, hD⟩ := st_K hts
  obtain ⟨cQ, cI, hQ⟩ := QK.of h210 (hts _ st_202)
  obtain ⟨cI', i1, i2⟩ := st_arr (hts _ st_202)
  obtain ⟨cB, b1, b2⟩ := st_arr (hts _ st_134)
  obtain ⟨cZ, z1, z2⟩ := st_arr (hts _ st_250)
  obtain ⟨cJ, j1, j2⟩ := st_arr (hts _ st_1289)
  have e : cI' = cI := by
    have i3 := i2
    rw [st_nI] at i3
    exact Option.some.inj (i3.symm.trans hQ.2.1)
  subst e
  obtain ⟨kQ, q1, q2⟩ := hQ.2.2.1
  refine ⟨D, cI', cB, cZ, cJ, cQ, ⟨hD, fun k q hk => ?_⟩, hQ⟩
  match k, hk with
  | 0, hk => cases hk; exact ⟨i1, i2⟩
  | 1, hk => cases hk; exact ⟨b1, b2⟩
  | 2, hk => cases hk; exact ⟨z1, z2⟩
  | 3, hk => cases hk; exact ⟨j1, j2⟩
  | 4, hk =>
    cases hk
    refine ⟨fun n z => ⟨fun k h => (by cases h), kQ, q1, cI', q2⟩, ?_⟩
    show s.vm.findClass ("[" ++ (FieldType.array .int).toString) = some cQ
    rw [st_nQ]
    exact hQ.1
  | k + 5, hk => cases hk
