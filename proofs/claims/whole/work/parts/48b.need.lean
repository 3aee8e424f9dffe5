/-! how many channels a set needs at least -/
theorem pig {g : Nat} (hg : 1 ≤ g) (r : Nat → Nat) : ∀ (m : Nat) (l : List Nat), l.Nodup → (∀ t, t ∈ l → 1 ≤ r t ∧ r t ≤ m) → (∀ t, t ∈ l → ∀ u, u ∈ l → t ≠ u → r t + g ≤ r u ∨ r u + g ≤ r t) → g * l.length + 1 ≤ m + g := by
  intro m
  induction m using Nat.strongRecOn with
  | _ m ih =>
    intro l hnd h1 h2
    by_cases hex : ∃ t, t ∈ l ∧ r t = m
    · obtain ⟨t, ht, hr⟩ := hex
      have hm := (h1 t ht).1
      have hlen := List.length_erase_of_mem ht
      have hpos := List.length_pos_of_mem ht
      have hin : ∀ u, u ∈ l.erase t → u ≠ t ∧ u ∈ l := fun u hu => (List.Nodup.mem_erase_iff hnd).mp hu
      have hle : ∀ u, u ∈ l.erase t → r u + g ≤ m := fun u hu => by
        obtain ⟨a1, a2⟩ := hin u hu
        have b := h2 u a2 t ht a1
        have c := (h1 u a2).2
        omega
      obtain ⟨k, hk⟩ : ∃ k, l.length = k + 1 := ⟨l.length - 1, by omega⟩
      rw [hk, Nat.mul_succ]
      rcases Nat.lt_or_ge m g with q | q
      · have he : l.erase t = [] := by
          cases he : l.erase t with
          | nil => rfl
          | cons u l' =>
            have := hle u (by rw [he]; exact List.mem_cons_self)
            omega
        rw [he] at hlen
        have hk0 : k = 0 := by
          have : (0 : Nat) = l.length - 1 := hlen
          omega
        subst hk0
        rw [Nat.mul_zero]; omega
      · have := ih (m - g) (by omega) (l.erase t) (hnd.erase t) (fun u hu => ⟨(h1 u (hin u hu).2).1, by have := hle u hu; omega⟩) (fun u hu v hv e => h2 u (hin u hu).2 v (hin v hv).2 e)
        rw [hlen, hk, Nat.add_sub_cancel] at this
        omega
    · rcases Nat.eq_zero_or_pos m with e | e
      · have he : l = [] := by
          cases he : l with
          | nil => rfl
          | cons u l' =>
            have := h1 u (by rw [he]; exact List.mem_cons_self)
            omega
        rw [he]
        show g * 0 + 1 ≤ m + g
        omega
      · have := ih (m - 1) (by omega) l hnd (fun u hu => ⟨(h1 u hu).1, by
          have a := (h1 u hu).2
          have b : r u ≠ m := fun z => hex ⟨u, hu, z⟩
          omega⟩) h2
        omega
section N1
variable {cl br : Nat → Int32}
theorem dd_cl {t u c e : Nat} (h : bt (cl t) u = true) (hd : DD cl br t c u e = false) : c + 1 ≤ e ∨ e + 1 ≤ c := by
  rcases Nat.lt_trichotomy c e with q | q | q
  · exact Or.inl q
  · unfold DD at hd
    rw [decide_eq_true q, cond_true, h] at hd
    cases hd
  · exact Or.inr q
theorem dd_br {t u c e : Nat} (h : bt (cl t) u = true) (hb : bt (br t) u = true) (hd : DD cl br t c u e = false) : c + 2 ≤ e ∨ e + 2 ≤ c := by
  have h1 := dd_cl h hd
  have hne : ¬ c = e := by omega
  unfold DD at hd
  rw [decide_eq_false hne, cond_false, hb, Bool.and_true, Bool.or_eq_false_iff] at hd
  have a := of_decide_eq_false hd.1
  have b := of_decide_eq_false hd.2
  omega
theorem stL8 {S : Nat → Bool} {t : Nat} : t ∈ stL S 8 0 ↔ t < 8 ∧ S t = true := by
  rw [stL_mem]
  constructor
  · rintro ⟨h1, h2, h3⟩; exact ⟨by omega, h3⟩
  · rintro ⟨h1, h2⟩; exact ⟨by omega, by omega, h2⟩
theorem stL_len (S : Nat → Bool) : ∀ k s, (stL S k s).length ≤ k := by
  intro k
  induction k with
  | zero => intro s; exact Nat.le_refl _
  | succ k ih =>
    intro s
    rw [stL]
    have := ih (s + 1)
    cases S s <;> simp only [cond_true, cond_false, List.length_cons] <;> omega
theorem nd_all {x g : Nat} (hg : 1 ≤ g) (h : ∀ t u, t < 8 → u < t → bt (nI x) t = true → bt (nI x) u = true → ∀ c e, DD cl br t c u e = false → c + g ≤ e ∨ e + g ≤ c) {ls : Nat → Int32} {m : Nat} (hP : PFit ls cl br (nI x) m) : g * (stL (bt (nI x)) 8 0).length + 1 ≤ m + g := by
  obtain ⟨r, hr⟩ := hP
  refine pig hg r m _ (stL_nd 8 0) (fun t ht => ?_) (fun t ht u hu e => ?_)
  · obtain ⟨t8, tS⟩ := stL8.mp ht
    obtain ⟨⟨a1, a2⟩, -⟩ := hr t t8 tS
    have a2 : (bt (ls t) (r t - 1) && decide (r t - 1 < m)) = true := a2
    rw [Bool.and_eq_true, decide_eq_true_eq] at a2
    exact ⟨a1, by omega⟩
  · obtain ⟨t8, tS⟩ := stL8.mp ht
    obtain ⟨u8, uS⟩ := stL8.mp hu
    rcases Nat.lt_or_ge u t with q | q
    · exact h t u t8 q tS uS _ _ ((hr t t8 tS).2 u q uS)
    · exact (h u t u8 (by omega) uS tS _ _ ((hr u u8 uS).2 t (by omega) tS)).symm
theorem nd_sub {x y : Nat} {ls : Nat → Int32} {m : Nat} (h : ∀ t, t < 8 → bt (nI y) t = true → bt (nI x) t = true) (hP : PFit ls cl br (nI x) m) : PFit ls cl br (nI y) m := by
  obtain ⟨r, hr⟩ := hP
  refine ⟨r, fun t ht hS => ?_⟩
  obtain ⟨a1, a2⟩ := hr t ht (h t ht hS)
  exact ⟨a1, fun u hu hSu => a2 u hu (h u (by omega) hSu)⟩
theorem nd_one {x t : Nat} {ls : Nat → Int32} {m : Nat} (ht : t < 8) (hb : bt (nI x) t = true) (hP : PFit ls cl br (nI x) m) : 1 ≤ m := by
  obtain ⟨r, hr⟩ := hP
  obtain ⟨⟨a1, a2⟩, -⟩ := hr t ht hb
  have a2 : (bt (ls t) (r t - 1) && decide (r t - 1 < m)) = true := a2
  rw [Bool.and_eq_true, decide_eq_true_eq] at a2
  omega
end N1
theorem bcL : ∀ k, k < 256 → aBits (nI k) 16 = nI ((stL (bt (nI k)) 8 0).length) := by decide +kernel
theorem outN : ∀ x, x < 256 → ∀ s, s < 8 → bt (nI x) s = true → outS (nI x) s = nI (x - 2 ^ s) := by decide +kernel
theorem len1 : ∀ k, k < 256 → 1 ≤ k → 1 ≤ (stL (bt (nI k)) 8 0).length := by decide +kernel
theorem sub0 {x y : Int32} (h : x &&& (y ^^^ -(nI 1)) = nI 0) {t : Nat} (ht : t < 32) (hx : bt x t = true) : bt y t = true := by
  have h1 : bt (x &&& (y ^^^ -(nI 1))) t = bt (nI 0) t := by rw [h]
  rw [b_and, b_not ht, b_0, hx, Bool.true_and] at h1
  cases hy : bt y t with
  | true => rfl
  | false => rw [hy] at h1; cases h1
def NQ (M : Me) (q : Nat) : Option AV → Me → Prop := fun r M' => r = none ∧ (∀ i r k, i ≠ 27 → M'.1 i r k = M.1 i r k) ∧ M'.2 = M.2 ∧ NdK M' q
section N2
variable (E : EV) (d : Nat)
theorem c_learnNeeded (M : Me) (q : Nat) (hq : q ≤ 8) (hst : M.1 14 0 6 = nI q) (h0 : M.1 27 0 0 = nI 0) (hbc : ∀ s, s < 8 → ∀ t, bt (M.1 17 0 s) t = true → bt (M.1 16 0 s) t = true) : Mt E (d + 1) m_Packer_learnNeeded [vP 14 0] M (NQ M q) := by
  have h256 : 2 ^ q ≤ 256 := Nat.pow_le_pow_right (n := 2) (i := q) (j := 8) (by omega) hq
  have hp1 := Nat.two_pow_pos q
  have out : ∀ x, x ≤ 2 ^ q → ∀ N : Me, 1 ≤ x → (∀ i r k, i ≠ 27 → N.1 i r k = M.1 i r k) → N.2 = M.2 → NdB (M.1 16 0) (M.1 17 0) N x → ∀ j2 j3 j4 j5 j6, Wp E (d + 1) m_Packer_learnNeeded 2 [some (vP 14 0), some (vI (nI x)), j2, j3, j4, j5, j6] [] N (NQ M q) := by
    refine loopUp (2 ^ q) ?_ ?_
    · intro N hx1 hF h2 hB j2 j3 j4 j5 j6
      have hs : N.1 14 0 6 = nI q := (hF 14 0 6 (by omega)).trans hst
      have hb := (c_bit E d N q).of_eq (as' := [vI (N.1 14 0 6)]) (by rw [hs])
      refine go ok_Packer_learnNeeded [] 60 ?_
      refine xq d ok_CS_bit hb (by omega) ?_
      refine qLe (b1_nI q (by omega)) rfl (by omega) (by omega) (fun _ => ?_) (fun z => absurd z (by omega))
      refine And.intro rfl ⟨hF, h2, ?_⟩
      unfold NdK
      rw [show N.1 16 0 = M.1 16 0 from funext fun k => hF 16 0 k (by omega), show N.1 17 0 = M.1 17 0 from funext fun k => hF 17 0 k (by omega)]
      exact hB
    · intro x hx ih N hx1 hF h2 hB j2 j3 j4 j5 j6
      have hs : N.1 14 0 6 = nI q := (hF 14 0 6 (by omega)).trans hst
      have hb := (c_bit E d N q).of_eq (as' := [vI (N.1 14 0 6)]) (by rw [hs])
      have hx256 : x < 256 := by omega
      have hsm : isSm (nI x) := ⟨x, hx256, rfl⟩
      -- a number is noted
      have f162 : ∀ v, v ≤ 15 → (∀ ls m, PFit ls (M.1 16 0) (M.1 17 0) (nI x) m → v ≤ m) → ∀ j2 j3 j4 j5 j6, Wp E (d + 1) m_Packer_learnNeeded 162 [some (vP 14 0), some (vI (nI x)), j2, j3, j4, j5, j6] [vI (nI v), vI (nI x), vP 27 0] N (NQ M q) := by
        intro v hv hvP j2 j3 j4 j5 j6
        refine go ok_Packer_learnNeeded [2] 60 ?_
        refine ix x hx256 rfl ?_
        refine nm_r (nI_add _ _) (ih (sI N 27 0 x (nI v)) (by omega) (fun i r k hi => ?_) h2 (fun y hy => ?_) _ _ _ _ _)
        · rw [sI_at, if_neg (fun z => hi z.1)]
          exact hF i r k hi
        · rw [sI_at]
          by_cases e : y = x
          · rw [if_pos ⟨rfl, rfl, e⟩, e]
            exact ⟨v, rfl, hv, hvP⟩
          · rw [if_neg (fun z => e z.2.2)]
            exact hB y (by omega)
      have inner : ∀ s, s ≤ 8 → ∀ l c b j6, 1 ≤ l → l ≤ 15 → (∀ ls m, PFit ls (M.1 16 0) (M.1 17 0) (nI x) m → l ≤ m) → (c = true → ∀ t, t < s → bt (nI x) t = true → ∀ u, u < 8 → bt (nI x) u = true → u ≠ t → bt (M.1 16 0 t) u = true) → (b = true → ∀ t, t < s → bt (nI x) t = true → ∀ u, u < 8 → bt (nI x) u = true → u ≠ t → bt (M.1 17 0 t) u = true) → Wp E (d + 1) m_Packer_learnNeeded 30 [some (vP 14 0), some (vI (nI x)), some (vI (nI l)), some (vI (bI c)), some (vI (bI b)), some (vI (nI s)), j6] [] N (NQ M q) := by
        refine loopUp 8 ?_ ?_
        · intro l c b j6 hl1 hl hlP hc hbr
          have hlen := stL_len (bt (nI x)) 8 0
          have hlen1 := len1 x hx256 hx1
          refine go ok_Packer_learnNeeded [162] 60 ?_
          refine cLe (by omega) (by omega) (fun _ => ?_) (fun z => absurd z (by omega))
          refine xq d ok_Integer_bitCount (c_bitCountS E d N hsm) (by omega) ?_
          refine brF (fun eb => ?_) (fun eb => ?_)
          · refine brF (fun ec => ?_) (fun ec => ?_)
            · exact f162 l hl hlP _ _ _ _ _
            · have := f162 (stL (bt (nI x)) 8 0).length (by omega) (fun ls m hP => by
                have := nd_all (g := 1) (by omega) (fun t u t8 ut tS uS c e hd => dd_cl (hc ec t (by omega) tS u (by omega) uS (by omega)) hd) hP
                omega) (some (vI (nI l))) (some (vI (bI c))) (some (vI (bI b))) (some (vI (aBits (nI x) 16))) j6
              rw [← bcL x hx256] at this
              exact this
          · have e2 : nI 2 * aBits (nI x) 16 - nI 1 = nI (2 * (stL (bt (nI x)) 8 0).length - 1) := by
              rw [bcL x hx256, nI_mul, nI_m1 (by omega)]
            have := f162 (2 * (stL (bt (nI x)) 8 0).length - 1) (by omega) (fun ls m hP => by
              have := nd_all (g := 2) (by omega) (fun t u t8 ut tS uS c e hd => by
                have hb1 := hbr eb t (by omega) tS u (by omega) uS (by omega)
                exact dd_br (hbc t t8 u hb1) hb1 hd) hP
              omega) (some (vI (nI l))) (some (vI (bI c))) (some (vI (bI b))) (some (vI (aBits (nI x) 16))) j6
            rw [← e2] at this
            exact this
        · intro s hs8 ihs l c b j6 hl1 hl hlP hc hbr
          have f121 : ∀ l c b j6, 1 ≤ l → l ≤ 15 → (∀ ls m, PFit ls (M.1 16 0) (M.1 17 0) (nI x) m → l ≤ m) → (c = true → ∀ t, t < s + 1 → bt (nI x) t = true → ∀ u, u < 8 → bt (nI x) u = true → u ≠ t → bt (M.1 16 0 t) u = true) → (b = true → ∀ t, t < s + 1 → bt (nI x) t = true → ∀ u, u < 8 → bt (nI x) u = true → u ≠ t → bt (M.1 17 0 t) u = true) → Wp E (d + 1) m_Packer_learnNeeded 121 [some (vP 14 0), some (vI (nI x)), some (vI (nI l)), some (vI (bI c)), some (vI (bI b)), some (vI (nI s)), j6] [] N (NQ M q) := by
            intro l c b j6 k1 k2 k3 k4 k5
            refine go ok_Packer_learnNeeded [30] 60 ?_
            exact nm_r (nI_add _ _) (ihs l c b j6 k1 k2 k3 k4 k5)
          refine go ok_Packer_learnNeeded [30, 94, 121] 60 ?_
          refine cLe (by omega) (by omega) (fun z => absurd z (by omega)) (fun _ => ?_)
          refine xq d ok_CS_has (c_has E d N (nI x) s (by omega)) (by omega) ?_
          refine brF (fun e => ?_) (fun e => ?_)
          · have nt : ∀ t, t < s + 1 → bt (nI x) t = true → t < s := fun t ht hS => by
              rcases Nat.lt_or_ge t s with z | z
              · exact z
              · rw [show t = s by omega, e] at hS; cases hS
            exact f121 l c b j6 hl1 hl hlP (fun z t ht hS => hc z t (nt t ht hS) hS) (fun z t ht hS => hbr z t (nt t ht hS) hS)
          · have eo := outN x hx256 s hs8 e
            have hpos := Nat.two_pow_pos s
            obtain ⟨v, hv, hv15, hvP⟩ := hB (x - 2 ^ s) (by omega)
            have hoS : ∀ t, t < 8 → bt (nI (x - 2 ^ s)) t = true → bt (nI x) t = true := fun t ht h => by
              rw [← eo, outS_at (by omega) (by omega), Bool.and_eq_true] at h
              exact h.1
            have hoI : ∀ t, t < 8 → bt (nI x) t = true → t ≠ s → bt (outS (nI x) s) t = true := fun t ht h hne => by
              rw [outS_at (by omega) (by omega), h, decide_eq_false hne]; rfl
            have em : (if nI l < N.1 27 0 (x - 2 ^ s) then N.1 27 0 (x - 2 ^ s) else nI l) = nI (max l v) := by
              rw [hv]
              by_cases w : l < v
              · rw [if_pos ((nI_ltI (by omega) (by omega)).mpr w), Nat.max_eq_right (by omega)]
              · rw [if_neg (fun z => w ((nI_ltI (by omega) (by omega)).mp z)), Nat.max_eq_left (by omega)]
            have hl' : ∀ ls m, PFit ls (M.1 16 0) (M.1 17 0) (nI x) m → max l v ≤ m := fun ls m hP => by
              have w1 := hlP ls m hP
              have w2 := hvP ls m (nd_sub hoS hP)
              omega
            have n16 : N.1 16 0 s = M.1 16 0 s := hF 16 0 s (by omega)
            have n17 : N.1 17 0 s = M.1 17 0 s := hF 17 0 s (by omega)
            have f94 : ∀ c, (c = true → ∀ t, t < s + 1 → bt (nI x) t = true → ∀ u, u < 8 → bt (nI x) u = true → u ≠ t → bt (M.1 16 0 t) u = true) → Wp E (d + 1) m_Packer_learnNeeded 94 [some (vP 14 0), some (vI (nI x)), some (vI (if nI l < N.1 27 0 (x - 2 ^ s) then N.1 27 0 (x - 2 ^ s) else nI l)), some (vI (bI c)), some (vI (bI b)), some (vI (nI s)), some (vI (outS (nI x) s))] [] N (NQ M q) := by
              intro c hc
              rw [em]
              have no := f121 (max l v) c false (some (vI (outS (nI x) s))) (by omega) (by omega) hl' hc (fun z => by cases z)
              refine go ok_Packer_learnNeeded [30, 121] 60 ?_
              refine brF (fun eb => no) (fun eb => ?_)
              refine ix s (show _ < 8 by omega) rfl ?_
              refine And.intro (fun _ => no) (fun w => ?_)
              have w : outS (nI x) s &&& (N.1 17 0 s ^^^ -(nI 1)) = nI 0 := w
              rw [n17] at w
              refine f121 (max l v) c true (some (vI (outS (nI x) s))) (by omega) (by omega) hl' hc (fun _ t ht hS u hu hSu hne => ?_)
              rcases Nat.lt_or_ge t s with z | z
              · exact hbr eb t z hS u hu hSu hne
              · have et : t = s := by omega
                subst et
                exact sub0 w (by omega) (hoI u hu hSu hne)
            refine xq d ok_CS_bit (c_bit E d N s) (by omega) ?_
            refine ix (x - 2 ^ s) (show _ < 256 by omega) eo ?_
            have no := f94 false (fun z => by cases z)
            refine brF (fun ec => no) (fun ec => ?_)
            refine ix s (show _ < 8 by omega) rfl ?_
            refine And.intro (fun _ => no) (fun w => ?_)
            have w : outS (nI x) s &&& (N.1 16 0 s ^^^ -(nI 1)) = nI 0 := w
            rw [n16] at w
            refine f94 true (fun _ t ht hS u hu hSu hne => ?_)
            rcases Nat.lt_or_ge t s with z | z
            · exact hc ec t z hS u hu hSu hne
            · have et : t = s := by omega
              subst et
              exact sub0 w (by omega) (hoI u hu hSu hne)
      refine go ok_Packer_learnNeeded [30] 60 ?_
      refine xq d ok_CS_bit hb (by omega) ?_
      refine qLe (b1_nI q (by omega)) rfl (by omega) (by omega) (fun z => absurd z (by omega)) (fun _ => ?_)
      refine cLe (by omega) (by omega) (fun z => absurd z (by omega)) (fun _ => ?_)
      refine inner 0 (by omega) 1 true true j6 (by omega) (by omega) (fun ls m hP => ?_) (fun _ t ht => absurd ht (Nat.not_lt_zero t)) (fun _ t ht => absurd ht (Nat.not_lt_zero t))
      have hl1 := len1 x hx256 hx1
      cases he : stL (bt (nI x)) 8 0 with
      | nil => rw [he] at hl1; exact absurd hl1 (by decide)
      | cons t l =>
        obtain ⟨t8, tS⟩ := stL8.mp (show t ∈ stL (bt (nI x)) 8 0 by rw [he]; exact List.mem_cons_self)
        exact nd_one t8 tS hP
  refine Mt.go ok_Packer_learnNeeded [2] 60 rfl ?_
  refine out 1 (by omega) M (by omega) (fun _ _ _ _ => rfl) rfl (fun y hy => ?_) none none none none none
  have e : y = 0 := by omega
  subst e
  exact ⟨0, h0, by omega, fun _ _ _ => Nat.zero_le _⟩
end N2
