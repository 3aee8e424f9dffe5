section SX
variable {args : Array Value} {s : State} {A : Nat → Prop}
theorem nw_at (hgv : (Jvm.Cond.and given_1 narrow_1).before args s = true) {k : Nat} {w : Cond} (h : strX k w = true) : w.before args s = true := flat_of_before _ hgv w (List.mem_of_getElem? (of_decide_eq_true h))
theorem st_str (hgv : (Jvm.Cond.and given_1 narrow_1).before args s = true) (hA : ∀ a : Nat, a < s.heap.size → ¬ A a) : ∃ adK adV : Nat → Nat, vk_S 9 strLen strByt adK adV A s s.heap ∧ ∀ i : Nat, i < 9 → (strT i).eval args s none [] s = some (.ref (adK i)) := by
  refine vk_Sof (tm := strT) st_ln (fun i hi => ?_) (fun i hi => ?_) (fun i hi => ?_) (fun i hi => ?_) (fun i hi j hj => ?_) (fun i j hi hj hij => ?_) hA
  · exact nw_at hgv (List.all_eq_true.mp st_ex i (List.mem_range.mpr hi))
  · exact nw_at hgv (List.all_eq_true.mp st_co i (List.mem_range.mpr hi))
  · exact nw_at hgv (List.all_eq_true.mp st_ar i (List.mem_range.mpr hi))
  · exact nw_at hgv (List.all_eq_true.mp st_le i (List.mem_range.mpr hi))
  · exact nw_at hgv (List.all_eq_true.mp (List.all_eq_true.mp st_el i (List.mem_range.mpr hi)) j (List.mem_range.mpr hj))
  · rcases Nat.lt_or_gt_of_ne hij with h | h
    · exact Or.inl (nw_at hgv (List.all_eq_true.mp (List.all_eq_true.mp st_ne j (List.mem_range.mpr hj)) i (List.mem_range.mpr h)))
    · exact Or.inr (nw_at hgv (List.all_eq_true.mp (List.all_eq_true.mp st_ne i (List.mem_range.mpr hi)) j (List.mem_range.mpr h)))
theorem st_w {w : Cond} (hts : ∀ w ∈ lw_tbl, w.before args s = true) (k : Nat) (h : lw_tbl[k]? = some w) : w.before args s = true := hts w (List.mem_of_getElem? h)
theorem st_r1 (hts : ∀ w ∈ lw_tbl, w.before args s = true) {ad : Nat → Nat} (hev : ∀ i : Nat, i < 9 → (strT i).eval args s none [] s = some (.ref (ad i))) (i k : Nat) {own tx : String} {x : Nat} (hi : i < 9) (ht : strT i = .string own x) (h : lw_tbl[k]? = some (.stringRef own x tx)) : vk_R own x tx (ad i) s := vk_R.of (st_w hts k h) (by rw [← ht]; exact hev i hi)
theorem st_r2 (hgv : (Jvm.Cond.and given_1 narrow_1).before args s = true) (hts : ∀ w ∈ lw_tbl, w.before args s = true) {ad : Nat → Nat} (hev : ∀ i : Nat, i < 9 → (strT i).eval args s none [] s = some (.ref (ad i))) (i k n : Nat) {own tx : String} {x : Nat} (hi : i < 9) (ht : strX n (.eq (strT i) (.string own x)) = true) (h : lw_tbl[k]? = some (.stringRef own x tx)) : vk_R own x tx (ad i) s := vk_R.of (st_w hts k h) (va_eqR (nw_at hgv ht) (hev i hi))
theorem st_slk (hgv : (Jvm.Cond.and given_1 narrow_1).before args s = true) (hts : ∀ w ∈ lw_tbl, w.before args s = true) {ad : Nat → Nat} (hev : ∀ i : Nat, i < 9 → (strT i).eval args s none [] s = some (.ref (ad i))) : ∀ q ∈ slk, vk_R (cnm q.1) q.2.1 q.2.2.2 (ad (q.2.2.1 - 300)) s := by
  intro q hq
  unfold slk at hq
  simp only [List.mem_cons, List.not_mem_nil, or_false] at hq
  rcases hq with rfl | rfl | rfl | rfl | rfl | rfl | rfl | rfl | rfl | rfl | rfl | rfl | rfl | rfl | rfl | rfl
  · exact st_r1 hts hev 1 600 (own := "ChannelSqueeze$Reader") (x := 47) (by omega) rfl (by decide +kernel)
  · exact st_r1 hts hev 7 618 (own := "ChannelSqueeze$Reader") (x := 56) (by omega) rfl (by decide +kernel)
  · exact st_r1 hts hev 0 523 (own := "ChannelSqueeze$Reader") (x := 61) (by omega) rfl (by decide +kernel)
  · exact st_r1 hts hev 4 615 (own := "ChannelSqueeze$Reader") (x := 97) (by omega) rfl (by decide +kernel)
  · exact st_r1 hts hev 5 616 (own := "ChannelSqueeze$Reader") (x := 103) (by omega) rfl (by decide +kernel)
  · exact st_r1 hts hev 6 617 (own := "ChannelSqueeze$Reader") (x := 108) (by omega) rfl (by decide +kernel)
  · exact st_r1 hts hev 2 613 (own := "ChannelSqueeze$Reader") (x := 145) (by omega) rfl (by decide +kernel)
  · exact st_r1 hts hev 3 614 (own := "ChannelSqueeze$Reader") (x := 153) (by omega) rfl (by decide +kernel)
  · exact st_r2 hgv hts hev 0 1345 158 (own := "ChannelSqueezeModel") (x := 144) (by omega) (by decide +kernel) (by decide +kernel)
  · exact st_r2 hgv hts hev 1 1375 179 (own := "ChannelSqueezeModel") (x := 146) (by omega) (by decide +kernel) (by decide +kernel)
  · exact st_r2 hgv hts hev 2 1384 196 (own := "ChannelSqueezeModel") (x := 148) (by omega) (by decide +kernel) (by decide +kernel)
  · exact st_r2 hgv hts hev 3 1385 217 (own := "ChannelSqueezeModel") (x := 149) (by omega) (by decide +kernel) (by decide +kernel)
  · exact st_r2 hgv hts hev 4 1386 236 (own := "ChannelSqueezeModel") (x := 151) (by omega) (by decide +kernel) (by decide +kernel)
  · exact st_r2 hgv hts hev 5 1387 259 (own := "ChannelSqueezeModel") (x := 153) (by omega) (by decide +kernel) (by decide +kernel)
  · exact st_r2 hgv hts hev 6 1388 281 (own := "ChannelSqueezeModel") (x := 155) (by omega) (by decide +kernel) (by decide +kernel)
  · exact st_r2 hgv hts hev 7 1389 307 (own := "ChannelSqueezeModel") (x := 157) (by omega) (by decide +kernel) (by decide +kernel)
theorem nw_tabs {w : Cond} (hw : nestWord w = true) : w.onTables = true := by
  cases w <;> first | (simp [nestWord] at hw; done) | rfl
theorem st_nest (hts : ∀ w ∈ lw_tbl, w.before args s = true) : ∀ w ∈ NWl, va_Nw w s := fun w hw => va_Nw.of (nw_tabs (List.mem_filter.mp hw).2) (hts w (List.mem_filter.mp hw).1)
theorem st_nsB (hts : ∀ w ∈ lw_tbl, w.before args s = true) : ∀ w ∈ nsB, va_Nw w s := by
  intro w hw
  simp only [nsB, List.mem_cons, List.not_mem_nil, or_false] at hw
  rcases hw with rfl | rfl | rfl
  · exact va_Nw.of rfl (st_w hts 1100 (by decide +kernel))
  · exact va_Nw.of rfl (st_w hts 1102 (by decide +kernel))
  · exact va_Nw.of rfl (st_w hts 1104 (by decide +kernel))
end SX
