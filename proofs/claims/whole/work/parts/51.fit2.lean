/-! the class: fits, rowOf, rows, fewest, proof, could -/
abbrev CQs (M : Me) (p : AT) (n : Nat) : Option AV → Me → Prop := fun r M' => r = some (vI p.1) ∧ FC M M' ∧ M'.1 0 0 11 = p.2 ∧ KNm M' (n + 1)
theorem KNm_up {M : Me} {n : Nat} (h : KNm M n) (hn : n + 1 < 2000) : KNm M (n + 1) := by
  obtain ⟨-, a, h1, h2, h3⟩ := h
  exact ⟨hn, a, h1, by omega, h3⟩
theorem cqs_no {M : Me} {p : AT} {n t : Nat} (hK : KNm M n) (hn : n + 1 < 2000) (e : p = no t) : CQs M p n (some (vI (-(nI 1)))) (sI M 0 0 11 (nI t)) := by
  subst e
  exact ⟨rfl, FC_sI (FC.rf M) rfl, rfl, KNm_up hK hn⟩
theorem cqs_ye {M N : Me} {p : AT} {n : Nat} {v : Int32} (hF : FC M N) (hK : KNm N (n + 1)) (e : p = ye v) : CQs M p n (some (vI v)) (sI N 0 0 11 (nI 0)) := by
  subst e
  exact ⟨rfl, FC_sI hF rfl, rfl, hK⟩
theorem cqs_no2 {M N : Me} {p : AT} {n t : Nat} (hF : FC M N) (hK : KNm N (n + 1)) (e : p = no t) : CQs M p n (some (vI (-(nI 1)))) (sI N 0 0 11 (nI t)) := by
  subst e
  exact ⟨rfl, FC_sI hF rfl, rfl, hK⟩
theorem set_lt {B : Me} {x : Nat} (hx : x < 2 ^ sN B) : ∀ t, bt (nI x) t = true → t < sN B := by
  intro t h
  rcases Nat.lt_or_ge t 32 with e | e
  · rw [b_nI _ e] at h
    rcases Nat.lt_or_ge t (sN B) with q | q
    · exact q
    · rw [Nat.testBit_lt_two_pow (Nat.lt_of_lt_of_le hx (Nat.pow_le_pow_right (by omega) q))] at h
      cases h
  · rw [b_big e] at h; cases h
theorem len8 (S : Nat → Bool) : (stL S 8 0).length ≤ 8 := by
  have : ∀ k s, (stL S k s).length ≤ k := by
    intro k
    induction k with
    | zero => intro s; exact Nat.le_refl _
    | succ k ih =>
      intro s
      rw [stL]
      have := ih (s + 1)
      cases S s <;> simp only [cond_true, cond_false, List.length_cons] <;> omega
  exact this 8 0
/-- behind begin -/
def bgM (M : Me) (set : Int32) (m : Nat) : Me := setR M 19 0 0 8 (fun s => bif bt set s then M.1 15 0 s &&& nI (2 ^ m - 1) else nI 0)
theorem bgM_a (M : Me) (set : Int32) (m : Nat) : A19 M (bgM M set m) := ⟨fun i r k e => setR_out (fun z => e z.1), rfl⟩
theorem bgM_lf {B M : Me} {n : Nat} (hP : PU B M n) {set : Int32} (hset : ∀ t, bt set t = true → t < sN B) {m : Nat} (hm : m ≤ 10) {t : Nat} (ht : t < 8) (hS : bt set t = true) (i : Nat) : lfB (bgM M set m) 0 t i = Lm (aLst B) m t i := by
  unfold bgM
  rw [begin_lf hm ht hS i, hP.1 t ht]
  exact lsC_at (hset t hS) hm i
theorem bgM_w {B M : Me} {n : Nat} (hP : PU B M n) {set : Int32} (hset : ∀ t, bt set t = true → t < sN B) {m : Nat} (hm : m ≤ 10) : Lw (bgM M set m) 0 set := by
  intro t ht hS i hi
  have := bgM_lf hP hset hm ht hS i
  unfold lfB at this
  rw [this]
  unfold Lm
  rw [decide_eq_false (by omega), Bool.and_false]
theorem PU_a {B M M' : Me} {n : Nat} (h : A19 M M') (hP : PU B M n) : PU B M' n := by
  refine PU_fp h.fp ?_ hP
  obtain ⟨h1, a, ⟨h2, hd⟩, h3, h4⟩ := hP.2.2.1
  refine ⟨h1, a, ⟨by rw [h.1 14 0 7 (by omega)]; exact h2, KNd_fr (h.1 14 0 6 (by omega)) (funext fun s => h.1 16 0 s (by omega)) (funext fun s => h.1 17 0 s (by omega)) (funext fun s => h.1 27 0 s (by omega)) hd⟩, h3, fun k hk => ?_⟩
  rw [h.1 20 0 k (by omega), show M'.1 15 0 = M.1 15 0 from funext fun s => h.1 15 0 s (by omega), show M'.1 16 0 = M.1 16 0 from funext fun s => h.1 16 0 s (by omega), show M'.1 17 0 = M.1 17 0 from funext fun s => h.1 17 0 s (by omega)]
  exact h4 k hk
theorem A19.fc {M M' : Me} (h : A19 M M') : FC M M' := h.fp.fc
/-- a text has a channel -/
theorem hC1c {M : Me} (h : CI M) (hT1 : hT M = true) : 1 ≤ cN M := h.2.2.2.2.2.2.1 hT1
/-- a word is taken off the stack -/
theorem w_pop {E : EV} {d : Nat} {m : MC} {pc : Nat} {ls : List (Option AV)} {st : List AV} {M : Me} {Q : Option AV → Me → Prop} {v : AV} (hd : decode (mB m) pc = .ok (.pop, 1)) (hv : ∀ x, v ≠ vJ x) (hk : Wp E d m (pc + 1) ls st M Q) : Wp E d m pc ls (v :: st) M Q := by
  intro p e s mid args below meth c H locs js F hP hS hl h1 h2 h3
  exact lv_pop F.1 F.2.1 hd (cat1 hv) (hk p e s mid args below meth c H locs js F hP hS hl (okSt_tl h1) h2 h3)
theorem no_fit {M : Me} {set : Int32} {m : Nat} (h : aFit M set m = false) : aX M set m = [] := by
  cases hX : aX M set m with
  | nil => rfl
  | cons r X => unfold aFit at h; rw [hX] at h; cases h
section C5
variable (E : EV) (d : Nat) (M : Me)
theorem c_hasA (x y : Int32) : Mt E d m_CS_has [vI x, vI y] M (fun r M' => (∃ b, r = some (vI (bI b))) ∧ M' = M) := by
  refine Mt.go ok_CS_has [] 20 rfl ?_
  refine And.intro (fun _ => ?_) (fun _ => ?_)
  · exact And.intro (Or.inl rfl) ⟨⟨false, rfl⟩, rfl⟩
  · exact And.intro (Or.inr rfl) ⟨⟨true, rfl⟩, rfl⟩
theorem c_fits (hC : CI M) (n : Nat) (hK : KNm M n) (hn : n + 1 < 2000) (x y : Int32) : Mt E (d + 13) m_CS_fits [vP 0 0, vI x, vI y] M (CQs M (qFits M x y) n) := by
  obtain ⟨hX, hB, hx, hW, hN, hA⟩ := id hC
  have h8 := hX.1.2.1.2
  generalize hQ : CQs M (qFits M x y) n = Q
  refine Mt.go ok_CS_fits [26] 60 rfl ?_
  have f26 : ∀ b, b = (aSet M x && aCh M y) → Wp E (d + 13) m_CS_fits 26 [some (vP 0 0), some (vI x), some (vI y)] [vI (bI b), vI (bI (hT M)), vP 0 0] M Q := by
    intro b hb
    refine go ok_CS_fits [34] 60 ?_
    refine xc d ok_CS_isRefused (c_isRefused E d M (hT M) b) (by omega) ?_
    rintro r M1 ⟨rfl, rfl⟩
    cases q1 : hT M with
    | false =>
      refine And.intro (fun e => absurd (show nI 1 = nI 0 from e) (by decide)) (fun _ => ?_)
      rw [← hQ]
      have ht : tWhy M x y = 1 := by unfold tWhy; rw [q1]; rfl
      exact cqs_no hK hn (by unfold qFits; rw [ht, if_pos (by decide)]; rfl)
    | true =>
      cases b with
      | false =>
        refine And.intro (fun e => absurd (show nI 1 = nI 0 from e) (by decide)) (fun _ => ?_)
        rw [← hQ]
        have ht : tWhy M x y = 2 := by unfold tWhy; rw [q1, ← hb]; rfl
        exact cqs_no hK hn (by unfold qFits; rw [ht, if_pos (by decide)]; rfl)
      | true =>
        refine And.intro (fun _ => ?_) (fun e => absurd (show nI 0 = nI 0 from rfl) e)
        have ht : tWhy M x y = 0 := by unfold tWhy; rw [q1, ← hb]; rfl
        have hq : qFits M x y = qFits M x y := rfl
        conv at hq => rhs; unfold qFits; rw [ht, if_neg (by decide)]
        have hb2 := hb.symm
        rw [Bool.and_eq_true] at hb2
        obtain ⟨a, ha, rfl⟩ := aSet_at hX.1 hb2.1
        obtain ⟨c, hc1, hc2, rfl⟩ := aCh_at hX.1 hb2.2
        have hc10 := hX.1.1.2
        have hp8 := pow_le8 h8
        rw [tN_nI (by omega)] at hq
        have hC1 : CI (sI M 0 0 11 (nI 0)) := hC
        have hK1 : KNm (sI M 0 0 11 (nI 0)) n := hK
        refine go ok_CS_fits [67] 60 ?_
        refine xc (d + 2) ok_Packer_learn (c_learn E d _ n hC1 (sN_hT hC q1) hK1 hn) (by omega) ?_
        rintro r M2 ⟨rfl, hF2, h02, hP2⟩
        have hset : ∀ t, bt (nI a) t = true → t < sN (sI M 0 0 11 (nI 0)) := set_lt (B := M) ha
        have hFM : FC M M2 := (FC_sI (FC.rf M) rfl).tr hF2
        have fin : ∀ v M3, FC M M3 → KNm M3 (n + 1) → v = bI (aFit M (nI a) c) → Wp E (d + 13) m_CS_fits 67 [some (vP 0 0), some (vI (nI a)), some (vI (nI c))] [vI v, vP 0 0] M3 Q := by
          rintro v M3 h1 h2 rfl
          refine go ok_CS_fits [] 60 ?_
          refine x_cans E _ _ (by omega) ?_
          rw [← hQ]
          exact cqs_ye h1 h2 hq
        refine x_fit E d (B := sI M 0 0 11 (nI 0)) h8 hP2 a c ha (by omega) (by omega) (fun M3 hF3 hP3 => ?_)
        have e : aFit (sI M 0 0 11 (nI 0)) (nI a) c = aFit M (nI a) c := rfl
        rw [e]
        refine brF (fun q => ?_) (fun q => ?_)
        · exact fin _ M3 (hFM.tr hF3.fc) hP3.2.2.1 (by rw [q]; rfl)
        · exact fin _ M3 (hFM.tr hF3.fc) hP3.2.2.1 (by rw [q]; rfl)
  refine xq d ok_CS_hasText (c_hasText E d M hC) (by omega) ?_
  refine xq (d + 1) ok_CS_isSet (c_isSet E d M hC x) (by omega) ?_
  refine brF (fun q => ?_) (fun q => ?_)
  · exact f26 false (by rw [q]; rfl)
  · refine xq d ok_CS_isChannel (c_isChannel E d M hC y) (by omega) ?_
    refine brF (fun q2 => ?_) (fun q2 => ?_)
    · exact f26 false (by rw [q2, Bool.and_false])
    · exact f26 true (by rw [q, q2]; rfl)
theorem c_rows (hC : CI M) (n : Nat) (hK : KNm M n) (hn : n + 1 < 2000) (x y : Int32) : Mt E (d + 13) m_CS_rows [vP 0 0, vI x, vI y] M (CQs M (qRows M x y) n) := by
  obtain ⟨hX, hB, hx, hW, hN, hA⟩ := id hC
  have h8 := hX.1.2.1.2
  generalize hQ : CQs M (qRows M x y) n = Q
  refine Mt.go ok_CS_rows [26] 60 rfl ?_
  have f26 : ∀ b, b = (aSet M x && aCh M y) → Wp E (d + 13) m_CS_rows 26 [some (vP 0 0), some (vI x), some (vI y)] [vI (bI b), vI (bI (hT M)), vP 0 0] M Q := by
    intro b hb
    refine go ok_CS_rows [34] 60 ?_
    refine xc d ok_CS_isRefused (c_isRefused E d M (hT M) b) (by omega) ?_
    rintro r M1 ⟨rfl, rfl⟩
    cases q1 : hT M with
    | false =>
      refine And.intro (fun e => absurd (show nI 1 = nI 0 from e) (by decide)) (fun _ => ?_)
      rw [← hQ]
      have ht : tWhy M x y = 1 := by unfold tWhy; rw [q1]; rfl
      exact cqs_no hK hn (by unfold qRows; rw [ht, if_pos (by decide)]; rfl)
    | true =>
      cases b with
      | false =>
        refine And.intro (fun e => absurd (show nI 1 = nI 0 from e) (by decide)) (fun _ => ?_)
        rw [← hQ]
        have ht : tWhy M x y = 2 := by unfold tWhy; rw [q1, ← hb]; rfl
        exact cqs_no hK hn (by unfold qRows; rw [ht, if_pos (by decide)]; rfl)
      | true =>
        refine And.intro (fun _ => ?_) (fun e => absurd (show nI 0 = nI 0 from rfl) e)
        have ht : tWhy M x y = 0 := by unfold tWhy; rw [q1, ← hb]; rfl
        have hq : qRows M x y = qRows M x y := rfl
        conv at hq => rhs; unfold qRows; rw [ht, if_neg (by decide)]
        have hb2 := hb.symm
        rw [Bool.and_eq_true] at hb2
        obtain ⟨a, ha, rfl⟩ := aSet_at hX.1 hb2.1
        obtain ⟨c, hc1, hc2, rfl⟩ := aCh_at hX.1 hb2.2
        have hc10 := hX.1.1.2
        have hp8 := pow_le8 h8
        rw [tN_nI (by omega)] at hq
        have hC1 : CI (sI M 0 0 11 (nI 0)) := hC
        have hK1 : KNm (sI M 0 0 11 (nI 0)) n := hK
        refine go ok_CS_rows [] 60 ?_
        refine xc (d + 2) ok_Packer_learn (c_learn E d _ n hC1 (sN_hT hC q1) hK1 hn) (by omega) ?_
        rintro r M2 ⟨rfl, hF2, h02, hP2⟩
        have hset : ∀ t, bt (nI a) t = true → t < sN (sI M 0 0 11 (nI 0)) := set_lt (B := M) ha
        have hFM : FC M M2 := (FC_sI (FC.rf M) rfl).tr hF2
        refine x_fit E d (B := sI M 0 0 11 (nI 0)) h8 hP2 a c ha (by omega) (by omega) (fun Mp hFp hPp => ?_)
        refine brN (fun qf => ?_) (fun qf => ?_)
        · refine xc (d + 1) ok_Packer_begin (c_begin E d Mp (nI a) c (by omega)) (by omega) ?_
          rintro r M3 ⟨rfl, hM3⟩
          have hM3 : M3 = bgM Mp (nI a) c := hM3
          subst hM3
          have hA3 := bgM_a Mp (nI a) c
          have hP3 := PU_a hA3 hPp
          refine xc (d + 2 + 8) ok_Packer_countRows (c_countRows E d (DD_sy _ h8) 8 0 (nI a) _ 999 (by omega) (by omega) hP3.2.1 ⟨a, by omega, rfl⟩ (len8 _) (by omega) (bgM_w hPp hset (by omega))) (by omega) ?_
          rintro r M4 ⟨rfl, hF4⟩
          refine x_cans E _ _ (by omega) ?_
          rw [← hQ]
          refine cqs_ye (hFM.tr (hFp.fc.tr (hA3.fc.tr hF4.a.fc))) (PU_a hF4.a hP3).2.2.1 ?_
          rw [hq]
          have e1 : cnt (DD (clC M) (brC M)) (stL (bt (nI a)) 8 0) (lfB (bgM Mp (nI a) c) 0) = (aX M (nI a) c).length := by
            show cnt (DD (clC (sI M 0 0 11 (nI 0))) (brC (sI M 0 0 11 (nI 0)))) (stL (bt (nI a)) 8 0) (lfB (bgM Mp (nI a) c) 0) = (aX M (nI a) c).length
            have e2 : (aX (sI M 0 0 11 (nI 0)) (nI a) c).length = (aX M (nI a) c).length := rfl
            rw [← e2, aX_len (B := sI M 0 0 11 (nI 0)) h8 hset (by omega)]
            refine cnt_cg _ _ _ (fun t ht i _ => ?_)
            obtain ⟨-, t1, t2⟩ := (stL_mem _ _ _).mp ht
            exact bgM_lf hPp hset (by omega) (by omega) t2 i
          rw [e1]
        · refine x_cans E _ _ (by omega) ?_
          rw [← hQ]
          refine cqs_ye (hFM.tr hFp.fc) hPp.2.2.1 ?_
          rw [hq, no_fit (M := M) qf]; rfl
  refine xq d ok_CS_hasText (c_hasText E d M hC) (by omega) ?_
  refine xq (d + 1) ok_CS_isSet (c_isSet E d M hC x) (by omega) ?_
  refine brF (fun q => ?_) (fun q => ?_)
  · exact f26 false (by rw [q]; rfl)
  · refine xq d ok_CS_isChannel (c_isChannel E d M hC y) (by omega) ?_
    refine brF (fun q2 => ?_) (fun q2 => ?_)
    · exact f26 false (by rw [q2, Bool.and_false])
    · exact f26 true (by rw [q, q2]; rfl)
theorem c_rowOf (hC : CI M) (n : Nat) (hK : KNm M n) (hn : n + 1 < 2000) (x y z : Int32) : Mt E (d + 13) m_CS_rowOf [vP 0 0, vI x, vI y, vI z] M (CQs M (qRowOf M x y z) n) := by
  obtain ⟨hX, hB, hx, hW, hN, hA⟩ := id hC
  have h8 := hX.1.2.1.2
  generalize hQ : CQs M (qRowOf M x y z) n = Q
  refine Mt.go ok_CS_rowOf [35] 60 rfl ?_
  have f35 : ∀ b, (aSt M z = true → b = (aSet M x && aCh M y && bt x (tN z))) → Wp E (d + 13) m_CS_rowOf 35 [some (vP 0 0), some (vI x), some (vI y), some (vI z)] [vI (bI b), vI (bI (aSt M z)), vP 0 0] M Q := by
    intro b hb
    refine go ok_CS_rowOf [43] 60 ?_
    refine xc d ok_CS_isRefused (c_isRefused E d M (aSt M z) b) (by omega) ?_
    rintro r M1 ⟨rfl, rfl⟩
    cases q1 : aSt M z with
    | false =>
      refine And.intro (fun e => absurd (show nI 1 = nI 0 from e) (by decide)) (fun _ => ?_)
      rw [← hQ]
      have ht : tWhyOf M x y z = 1 := by unfold tWhyOf; rw [q1]; rfl
      exact cqs_no hK hn (by unfold qRowOf; rw [ht, if_pos (by decide)]; rfl)
    | true =>
      have hb := hb q1
      cases b with
      | false =>
        refine And.intro (fun e => absurd (show nI 1 = nI 0 from e) (by decide)) (fun _ => ?_)
        rw [← hQ]
        have ht : tWhyOf M x y z = 2 := by unfold tWhyOf; rw [q1, ← hb]; rfl
        exact cqs_no hK hn (by unfold qRowOf; rw [ht, if_pos (by decide)]; rfl)
      | true =>
        refine And.intro (fun _ => ?_) (fun e => absurd (show nI 0 = nI 0 from rfl) e)
        have ht : tWhyOf M x y z = 0 := by unfold tWhyOf; rw [q1, ← hb]; rfl
        have hq : qRowOf M x y z = qRowOf M x y z := rfl
        conv at hq => rhs; unfold qRowOf; rw [ht, if_neg (by decide)]
        have hb2 := hb.symm
        rw [Bool.and_eq_true, Bool.and_eq_true] at hb2
        obtain ⟨a, ha, rfl⟩ := aSet_at hX.1 hb2.1.1
        obtain ⟨c, hc1, hc2, rfl⟩ := aCh_at hX.1 hb2.1.2
        obtain ⟨s, hs, rfl⟩ := aSt_at hX.1 q1
        have hbs := hb2.2
        have hc10 := hX.1.1.2
        have hp8 := pow_le8 h8
        rw [tN_nI (show s < 2 ^ 31 by omega)] at hq hbs
        rw [tN_nI (show c < 2 ^ 31 by omega)] at hq
        have hC1 : CI (sI M 0 0 11 (nI 0)) := hC
        have hK1 : KNm (sI M 0 0 11 (nI 0)) n := hK
        refine go ok_CS_rowOf [94] 60 ?_
        refine xc (d + 2) ok_Packer_learn (c_learn E d _ n hC1 (sN_aSt hC q1) hK1 hn) (by omega) ?_
        rintro r M2 ⟨rfl, hF2, h02, hP2⟩
        have hset : ∀ t, bt (nI a) t = true → t < sN (sI M 0 0 11 (nI 0)) := set_lt (B := M) ha
        have hFM : FC M M2 := (FC_sI (FC.rf M) rfl).tr hF2
        refine x_fit E d (B := sI M 0 0 11 (nI 0)) h8 hP2 a c ha (by omega) (by omega) (fun Mp hFp hPp => ?_)
        refine brN (fun qf => ?_) (fun qf => ?_)
        · refine xc (d + 1) ok_Packer_begin (c_begin E d Mp (nI a) c (by omega)) (by omega) ?_
          rintro r M3 ⟨rfl, hM3⟩
          have hM3 : M3 = bgM Mp (nI a) c := hM3
          subst hM3
          have hA3 := bgM_a Mp (nI a) c
          have hP3 := PU_a hA3 hPp
          have hlf : ∀ t, t < 8 → bt (nI a) t = true → ∀ i, lfB (bgM Mp (nI a) c) 0 t i = Lm (aLst (sI M 0 0 11 (nI 0))) c t i := fun t ht hS i => bgM_lf hPp hset (by omega) ht hS i
          refine xc (d + 11) ok_Packer_settle (c_settle E d (DD_sy _ h8) (nI a) _ hP3.2.1 ⟨a, by omega, rfl⟩ (bgM_w hPp hset (by omega))) (by omega) ?_
          rintro r M4 (⟨rfl, hno, hA4⟩ | ⟨rfl, hA4, ρ, hρ, hv⟩)
          · obtain ⟨r, hr⟩ := aFit_ex.mp qf
            exact (hno ⟨r, Vr_cg (fun _ _ => rfl) (fun t ht hS i => (hlf t ht hS i).symm) ((Vr_B (B := sI M 0 0 11 (nI 0)) h8 hset).mpr hr)⟩).elim
          · refine w_pop (by decide +kernel) (fun _ e => by cases e) ?_
            refine go ok_CS_rowOf [] 60 ?_
            have hhd : (aX M (nI a) c).head? = some (res (bt (nI a)) (sN M) ρ) := Fst_head (B := sI M 0 0 11 (nI 0)) h8 hset hlf hρ
            obtain ⟨⟨r1, r2⟩, -⟩ := hρ.1 s (by omega) hbs
            have r10 : ρ s ≤ 10 := by
              rw [hlf s (by omega) hbs] at r2
              unfold Lm at r2
              simp only [Bool.and_eq_true, decide_eq_true_eq] at r2
              omega
            refine xq (d + 1) ok_Packer_settledChannel (c_settledChannel E d M4 s (ρ s) (by omega) r1 r10 (hv s (by omega) hbs)) (by omega) ?_
            refine x_cans E _ _ (by omega) ?_
            rw [← hQ]
            refine cqs_ye (hFM.tr (hFp.fc.tr (hA3.fc.tr hA4.fc))) (PU_a hA4 hP3).2.2.1 ?_
            rw [hq, hhd]
            dsimp only
            unfold res
            rw [hbs, decide_eq_true hs]; rfl
        · refine x_cref E _ (nI 6) (by omega) ?_
          rw [← hQ]
          refine cqs_no2 (hFM.tr hFp.fc) hPp.2.2.1 ?_
          rw [hq, no_fit (M := M) qf]; rfl
  refine xq d ok_CS_isStation (c_isStation E d M hC z) (by omega) ?_
  refine xq (d + 1) ok_CS_isSet (c_isSet E d M hC x) (by omega) ?_
  refine brF (fun q => ?_) (fun q => ?_)
  · exact f35 false (fun _ => by rw [q]; rfl)
  · refine xq d ok_CS_isChannel (c_isChannel E d M hC y) (by omega) ?_
    refine brF (fun q2 => ?_) (fun q2 => ?_)
    · exact f35 false (fun _ => by rw [q2, Bool.and_false]; rfl)
    · cases q3 : aSt M z with
      | true =>
        obtain ⟨s, hs, rfl⟩ := aSt_at hX.1 q3
        refine xq d ok_CS_has (c_has E d M x s (by omega)) (by omega) ?_
        have := f35 (bt x s) (fun _ => by rw [q, q2, tN_nI (by omega)]; rfl)
        rw [q3] at this
        refine brF (fun q4 => ?_) (fun q4 => ?_)
        · rw [q4] at this; exact this
        · rw [q4] at this; exact this
      | false =>
        refine xc d ok_CS_has (c_hasA E d M x z) (by omega) ?_
        rintro r M1 ⟨⟨b, rfl⟩, rfl⟩
        have := f35 b (fun e => by rw [q3] at e; cases e)
        rw [q3] at this
        refine brF (fun q4 => ?_) (fun q4 => ?_)
        · rw [q4] at this; exact this
        · rw [q4] at this; exact this
theorem c_could (hC : CI M) (n : Nat) (hK : KNm M n) (hn : n + 1 < 2000) (x y z : Int32) : Mt E (d + 13) m_CS_could [vP 0 0, vI x, vI y, vI z] M (CQs M (qCould M x y z) n) := by
  obtain ⟨hX, hB, hx, hW, hN, hA⟩ := id hC
  have h8 := hX.1.2.1.2
  generalize hQ : CQs M (qCould M x y z) n = Q
  refine Mt.go ok_CS_could [35] 60 rfl ?_
  have f35 : ∀ b, (aSt M z = true → b = (aSet M x && aCh M y && bt x (tN z))) → Wp E (d + 13) m_CS_could 35 [some (vP 0 0), some (vI x), some (vI y), some (vI z), none, none] [vI (bI b), vI (bI (aSt M z)), vP 0 0] M Q := by
    intro b hb
    refine go ok_CS_could [43] 60 ?_
    refine xc d ok_CS_isRefused (c_isRefused E d M (aSt M z) b) (by omega) ?_
    rintro r M1 ⟨rfl, rfl⟩
    cases q1 : aSt M z with
    | false =>
      refine And.intro (fun e => absurd (show nI 1 = nI 0 from e) (by decide)) (fun _ => ?_)
      rw [← hQ]
      have ht : tWhyOf M x y z = 1 := by unfold tWhyOf; rw [q1]; rfl
      exact cqs_no hK hn (by unfold qCould; rw [ht, if_pos (by decide)]; rfl)
    | true =>
      have hb := hb q1
      cases b with
      | false =>
        refine And.intro (fun e => absurd (show nI 1 = nI 0 from e) (by decide)) (fun _ => ?_)
        rw [← hQ]
        have ht : tWhyOf M x y z = 2 := by unfold tWhyOf; rw [q1, ← hb]; rfl
        exact cqs_no hK hn (by unfold qCould; rw [ht, if_pos (by decide)]; rfl)
      | true =>
        refine And.intro (fun _ => ?_) (fun e => absurd (show nI 0 = nI 0 from rfl) e)
        have ht : tWhyOf M x y z = 0 := by unfold tWhyOf; rw [q1, ← hb]; rfl
        have hq : qCould M x y z = qCould M x y z := rfl
        conv at hq => rhs; unfold qCould; rw [ht, if_neg (by decide)]
        have hb2 := hb.symm
        rw [Bool.and_eq_true, Bool.and_eq_true] at hb2
        obtain ⟨a, ha, rfl⟩ := aSet_at hX.1 hb2.1.1
        obtain ⟨c, hc1, hc2, rfl⟩ := aCh_at hX.1 hb2.1.2
        obtain ⟨s, hs, rfl⟩ := aSt_at hX.1 q1
        have hbs := hb2.2
        have hc10 := hX.1.1.2
        have hp8 := pow_le8 h8
        rw [tN_nI (show s < 2 ^ 31 by omega)] at hq hbs
        rw [tN_nI (show c < 2 ^ 31 by omega)] at hq
        have hC1 : CI (sI M 0 0 11 (nI 0)) := hC
        have hK1 : KNm (sI M 0 0 11 (nI 0)) n := hK
        refine go ok_CS_could [82] 60 ?_
        refine xc (d + 2) ok_Packer_learn (c_learn E d _ n hC1 (sN_aSt hC q1) hK1 hn) (by omega) ?_
        rintro r M2 ⟨rfl, hF2, h02, hP2⟩
        have hset : ∀ t, bt (nI a) t = true → t < sN (sI M 0 0 11 (nI 0)) := set_lt (B := M) ha
        have hFM : FC M M2 := (FC_sI (FC.rf M) rfl).tr hF2
        have hz : aFit M (nI a) c = false → ∀ k, k ≤ c → mkS (fun i => aLst M s i && aFit (Mc M s (i + 1)) (nI a) c) k = mkS (fun i => aLst M s i && aFit (Mc M s (i + 1)) (nI a) c) c := by
          intro hn0 k hk
          have hf : ∀ i, i < c → (aLst M s i && aFit (Mc M s (i + 1)) (nI a) c) = false := by
            intro i hi
            cases hl : aLst M s i with
            | false => rfl
            | true =>
              cases hf : aFit (Mc M s (i + 1)) (nI a) c with
              | false => rfl
              | true =>
                exfalso
                obtain ⟨r, hr⟩ := (could_iff (B := sI M 0 0 11 (nI 0)) (m := c) (c := i + 1) h8 hset (by omega) hs (by omega) (by omega) hl (F := fun t j => Lm (aLst (sI M 0 0 11 (nI 0))) c t j && (!decide (t = s) || decide (j = i + 1 - 1))) (fun _ _ _ _ => rfl)).mpr hf
                have : aFit (sI M 0 0 11 (nI 0)) (nI a) c = true := aFit_ex.mpr ⟨r, (Vr_B (B := sI M 0 0 11 (nI 0)) h8 hset).mp (fun t ht hS => by
                  obtain ⟨⟨r1, r2⟩, r3⟩ := hr t ht hS
                  rw [Bool.and_eq_true] at r2
                  exact ⟨⟨r1, r2.1⟩, r3⟩)⟩
                have this : aFit M (nI a) c = true := this
                rw [hn0] at this
                cases this
          apply b_ext
          intro i hi
          rw [mkS_at _ k i (by omega) hi, mkS_at _ c i (by omega) hi]
          by_cases e : i < c
          · rw [hf i e, Bool.and_false, Bool.and_false]
          · rw [decide_eq_false e, decide_eq_false (show ¬ i < k by omega)]
        have key : ∀ k, k ≤ c → ∀ v, v = mkS (fun i => aLst M s i && aFit (Mc M s (i + 1)) (nI a) c) k → ∀ N, FC (sI M 0 0 11 (nI 0)) N → PU (sI M 0 0 11 (nI 0)) N (n + 1) → Wp E (d + 13) m_CS_could 82 [some (vP 0 0), some (vI (nI a)), some (vI (nI c)), some (vI (nI s)), some (vI v), some (vI (nI (k + 1)))] [] N Q := by
          refine loopUp c ?_ ?_
          · rintro v rfl N hFN hPN
            refine go ok_CS_could [] 60 ?_
            refine cLt (by omega) (by omega) (fun _ => ?_) (fun q => absurd q (by omega))
            refine x_cans E _ _ (by omega) ?_
            rw [← hQ]
            exact cqs_ye ((FC_sI (FC.rf M) rfl).tr hFN) hPN.2.2.1 hq
          · rintro k hk ih v rfl N hFN hPN
            refine go ok_CS_could [82] 60 ?_
            refine cLt (by omega) (by omega) (fun q => absurd q (by omega)) (fun _ => ?_)
            refine xc (d + 1) ok_Packer_begin (c_begin E d N (nI a) c (by omega)) (by omega) ?_
            rintro r M3 ⟨rfl, hM3⟩
            have hM3 : M3 = bgM N (nI a) c := hM3
            subst hM3
            have hA3 := bgM_a N (nI a) c
            have hP3 := PU_a hA3 hPN
            have hlf : ∀ t, t < 8 → bt (nI a) t = true → ∀ i, lfB (bgM N (nI a) c) 0 t i = Lm (aLst (sI M 0 0 11 (nI 0))) c t i := fun t ht hS i => bgM_lf hPN hset (by omega) ht hS i
            refine xq d ok_CS_channelBit (c_channelBit E d _ (k + 1) (by omega)) (by omega) ?_
            refine xc d ok_Packer_limit (c_limit E d _ s (by omega) _) (by omega) ?_
            rintro r M4 ⟨rfl, hM4⟩
            have hA4 : A19 (bgM N (nI a) c) M4 := by rw [hM4]; exact A19_sI (A19.rf _)
            have hP4 := PU_a hA4 hP3
            have hlf4 : ∀ t, t < 8 → bt (nI a) t = true → ∀ i, lfB M4 0 t i = (Lm (aLst (sI M 0 0 11 (nI 0))) c t i && (!decide (t = s) || decide (i = k + 1 - 1))) := by
              intro t ht hS i
              rw [← hlf t ht hS i]
              unfold lfB
              rw [hM4, sI_at]
              by_cases e : t = s
              · rw [if_pos ⟨rfl, rfl, e⟩, decide_eq_true e, b_and, e]
                rcases Nat.lt_or_ge i 32 with hi | hi
                · rw [b1_at (by omega) hi]; rfl
                · rw [b_big hi]; rfl
              · rw [if_neg (fun w => e w.2.2), decide_eq_false e]
                simp
            have hw4 : Lw M4 0 (nI a) := by
              intro t ht hS i hi
              have := hlf4 t ht hS i
              unfold lfB at this
              rw [this]
              unfold Lm
              rw [decide_eq_false (show ¬ i < c by omega), Bool.and_false]; rfl
            refine xc (d + 2 + 8) ok_Packer_search (c_search E d (DD_sy _ h8) 8 0 (nI a) M4 hP4.2.1 ⟨a, by omega, rfl⟩ (len8 _) (by omega) hw4) (by omega) ?_
            rintro r M5 ⟨b, rfl, hb5, hF5⟩
            have hP5 := PU_a hF5.a hP4
            have hFN5 := hFN.tr (hA3.fc.tr (hA4.fc.tr hF5.a.fc))
            have eb : b = (aLst M s k && aFit (Mc M s (k + 1)) (nI a) c) := by
              cases hl : aLst M s k with
              | true =>
                rw [Bool.true_and, Bool.eq_iff_iff, hb5]
                exact could_iff (B := sI M 0 0 11 (nI 0)) (m := c) (c := k + 1) h8 hset (by omega) hs (by omega) (by omega) hl hlf4
              | false =>
                cases b with
                | false => rfl
                | true =>
                  obtain ⟨r, hr⟩ := hb5.mp rfl
                  obtain ⟨⟨r1, r2⟩, -⟩ := hr s (by omega) hbs
                  rw [hlf4 s (by omega) hbs, decide_eq_true rfl] at r2
                  simp only [Bool.and_eq_true, Bool.not_true, Bool.false_or, decide_eq_true_eq] at r2
                  unfold Lm at r2
                  rw [r2.2, Nat.add_sub_cancel, show aLst (sI M 0 0 11 (nI 0)) s k = false from hl] at r2
                  rw [Bool.false_and] at r2
                  exact absurd r2.1 (by decide)
            rw [eb]
            refine brF (fun q => ?_) (fun q => ?_)
            · refine nm_r (nI_add _ _) (ih _ ?_ M5 hFN5 hP5)
              rw [mkS, q]; rfl
            · refine xq d ok_CS_channelBit (c_channelBit E d _ (k + 1) (by omega)) (by omega) ?_
              refine nm_r (nI_add _ _) (ih _ ?_ M5 hFN5 hP5)
              rw [mkS, q]; rfl
        refine x_fit E d (B := sI M 0 0 11 (nI 0)) h8 hP2 a c ha (by omega) (by omega) (fun Mp hFp hPp => ?_)
        refine brN (fun qf => ?_) (fun qf => ?_)
        · exact key 0 (by omega) _ rfl Mp (hF2.tr hFp.fc) hPp
        · refine x_cans E _ _ (by omega) ?_
          rw [← hQ]
          refine cqs_ye (hFM.tr hFp.fc) hPp.2.2.1 ?_
          exact hq.trans (congrArg ye (hz qf 0 (by omega)).symm)
  refine xq d ok_CS_isStation (c_isStation E d M hC z) (by omega) ?_
  refine xq (d + 1) ok_CS_isSet (c_isSet E d M hC x) (by omega) ?_
  refine brF (fun q => ?_) (fun q => ?_)
  · exact f35 false (fun _ => by rw [q]; rfl)
  · refine xq d ok_CS_isChannel (c_isChannel E d M hC y) (by omega) ?_
    refine brF (fun q2 => ?_) (fun q2 => ?_)
    · exact f35 false (fun _ => by rw [q2, Bool.and_false]; rfl)
    · cases q3 : aSt M z with
      | true =>
        obtain ⟨s, hs, rfl⟩ := aSt_at hX.1 q3
        refine xq d ok_CS_has (c_has E d M x s (by omega)) (by omega) ?_
        have := f35 (bt x s) (fun _ => by rw [q, q2, tN_nI (by omega)]; rfl)
        rw [q3] at this
        refine brF (fun q4 => ?_) (fun q4 => ?_)
        · rw [q4] at this; exact this
        · rw [q4] at this; exact this
      | false =>
        refine xc d ok_CS_has (c_hasA E d M x z) (by omega) ?_
        rintro r M1 ⟨⟨b, rfl⟩, rfl⟩
        have := f35 b (fun e => by rw [q3] at e; cases e)
        rw [q3] at this
        refine brF (fun q4 => ?_) (fun q4 => ?_)
        · rw [q4] at this; exact this
        · rw [q4] at this; exact this
theorem c_leastThat {B N : Me} (n : Nat) (h8 : sN B ≤ 8) (hP : PU B N n) (x m : Nat) (hx : x < 2 ^ sN B) (hm : m ≤ 10) : Mt E (d + 12) m_Packer_leastThatDoesNotPack [vP 14 0, vI (nI x), vI (nI m)] N (fun r M' => r = some (vI (oI (lnp B x m (x + 1)))) ∧ FC N M' ∧ PU B M' n) := by
  have hp8 := pow_le8 h8
  refine Mt.go ok_Packer_leastThatDoesNotPack [22] 60 rfl ?_
  refine x_fit E d h8 hP x m hx hm (by omega) (fun M1 hF1 hP1 => ?_)
  refine brF (fun q => ?_) (fun q => ?_)
  · have hx1 : 1 ≤ x := by
      rcases Nat.eq_zero_or_pos x with e | e
      · rw [e, aFit_0] at q; cases q
      · exact e
    refine xq d ok_Integer_bitCount (c_bitCount E d M1 x (by omega)) (by omega) ?_
    have key : ∀ k, k ≤ x → 1 ≤ k → ∀ f, f = lnpF x (lnp B x m k) → f < 256 → ∀ N', FC N N' → PU B N' n → Wp E (d + 12) m_Packer_leastThatDoesNotPack 22 [some (vP 14 0), some (vI (nI x)), some (vI (nI m)), some (vI (nI f)), some (vI (aBits (nI f) 16)), some (vI (nI k))] [] N' (fun r M' => r = some (vI (oI (lnp B x m (x + 1)))) ∧ FC N M' ∧ PU B M' n) := by
      refine loopUp x ?_ ?_
      · rintro _ f rfl hf N' hFN hPN
        refine go ok_Packer_leastThatDoesNotPack [] 60 ?_
        refine cLe (by omega) (by omega) (fun _ => ?_) (fun q => absurd q (by omega))
        refine And.intro ?_ ⟨hFN, hPN⟩
        rw [lnp_end hx1 (by omega) q]; rfl
      · rintro k hk ih hk1 f rfl hf N' hFN hPN
        have hst := lnp_step (B := B) (m := m) hk1 hk (show x < 256 by omega)
        refine go ok_Packer_leastThatDoesNotPack [22] 60 ?_
        refine cLe (by omega) (by omega) (fun q => absurd q (by omega)) (fun _ => ?_)
        refine cLe (by omega) (by omega) (fun q => absurd q (by omega)) (fun _ => ?_)
        refine And.intro (fun w => ?_) (fun w => ?_)
        · have : subB k (nI x) = false := decide_eq_false w
          rw [this, Bool.false_and, cond_false] at hst
          refine nm_r (nI_add _ _) (ih (by omega) _ hst.symm hf N' hFN hPN)
        · have : subB k (nI x) = true := decide_eq_true w
          rw [this, Bool.true_and] at hst
          refine xq d ok_Integer_bitCount (c_bitCount E d N' k (by omega)) (by omega) ?_
          refine And.intro (fun w2 => ?_) (fun w2 => ?_)
          · rw [decide_eq_false (Int32.not_lt.mpr w2), Bool.false_and, cond_false] at hst
            refine nm_r (nI_add _ _) (ih (by omega) _ hst.symm hf N' hFN hPN)
          · rw [decide_eq_true (Int32.not_le.mp w2), Bool.true_and] at hst
            refine x_fit E d h8 hPN k m (by omega) hm (by omega) (fun M3 hF3 hP3 => ?_)
            refine brN (fun q3 => ?_) (fun q3 => ?_)
            · rw [q3] at hst
              have hst : lnpF x (lnp B x m (k + 1)) = lnpF x (lnp B x m k) := hst
              refine nm_r (nI_add _ _) (ih (by omega) _ hst.symm hf M3 (hFN.tr hF3.fc) hP3)
            · rw [q3] at hst
              have hst : lnpF x (lnp B x m (k + 1)) = k := hst
              refine xq d ok_Integer_bitCount (c_bitCount E d M3 k (by omega)) (by omega) ?_
              refine nm_r (nI_add _ _) (ih (by omega) k hst.symm (by omega) M3 (hFN.tr hF3.fc) hP3)
    exact key 1 hx1 (Nat.le_refl _) x (by rw [lnp_1]; rfl) (by omega) M1 hF1.fc hP1
  · refine And.intro ?_ ⟨hF1.fc, hP1⟩
    rw [lnp_none h8 (by omega) q (x + 1) (Nat.le_refl _)]; rfl
theorem c_proof (hC : CI M) (n : Nat) (hK : KNm M n) (hn : n + 1 < 2000) (x y : Int32) : Mt E (d + 14) m_CS_proof [vP 0 0, vI x, vI y] M (CQs M (qProof M x y) n) := by
  obtain ⟨hX, hB, hx, hW, hN, hA⟩ := id hC
  have h8 := hX.1.2.1.2
  generalize hQ : CQs M (qProof M x y) n = Q
  refine Mt.go ok_CS_proof [26] 60 rfl ?_
  have f26 : ∀ b, b = (aSet M x && aCh M y) → Wp E (d + 14) m_CS_proof 26 [some (vP 0 0), some (vI x), some (vI y), none] [vI (bI b), vI (bI (hT M)), vP 0 0] M Q := by
    intro b hb
    refine go ok_CS_proof [34] 60 ?_
    refine xc d ok_CS_isRefused (c_isRefused E d M (hT M) b) (by omega) ?_
    rintro r M1 ⟨rfl, rfl⟩
    cases q1 : hT M with
    | false =>
      refine And.intro (fun e => absurd (show nI 1 = nI 0 from e) (by decide)) (fun _ => ?_)
      rw [← hQ]
      have ht : tWhy M x y = 1 := by unfold tWhy; rw [q1]; rfl
      exact cqs_no hK hn (by unfold qProof; rw [ht, if_pos (by decide)]; rfl)
    | true =>
      cases b with
      | false =>
        refine And.intro (fun e => absurd (show nI 1 = nI 0 from e) (by decide)) (fun _ => ?_)
        rw [← hQ]
        have ht : tWhy M x y = 2 := by unfold tWhy; rw [q1, ← hb]; rfl
        exact cqs_no hK hn (by unfold qProof; rw [ht, if_pos (by decide)]; rfl)
      | true =>
        refine And.intro (fun _ => ?_) (fun e => absurd (show nI 0 = nI 0 from rfl) e)
        have ht : tWhy M x y = 0 := by unfold tWhy; rw [q1, ← hb]; rfl
        have hq : qProof M x y = qProof M x y := rfl
        conv at hq => rhs; unfold qProof; rw [ht, if_neg (by decide)]
        have hb2 := hb.symm
        rw [Bool.and_eq_true] at hb2
        obtain ⟨a, ha, rfl⟩ := aSet_at hX.1 hb2.1
        obtain ⟨c, hc1, hc2, rfl⟩ := aCh_at hX.1 hb2.2
        have hc10 := hX.1.1.2
        have hp8 := pow_le8 h8
        rw [tN_nI (by omega)] at hq
        have hC1 : CI (sI M 0 0 11 (nI 0)) := hC
        have hK1 : KNm (sI M 0 0 11 (nI 0)) n := hK
        refine go ok_CS_proof [71] 60 ?_
        refine xc (d + 2) ok_Packer_learn (c_learn E d _ n hC1 (sN_hT hC q1) hK1 hn) (by omega) ?_
        rintro r M2 ⟨rfl, hF2, h02, hP2⟩
        have hset : ∀ t, bt (nI a) t = true → t < sN (sI M 0 0 11 (nI 0)) := set_lt (B := M) ha
        have hFM : FC M M2 := (FC_sI (FC.rf M) rfl).tr hF2
        refine xc (d + 12) ok_Packer_leastThatDoesNotPack (c_leastThat E d (B := sI M 0 0 11 (nI 0)) (n + 1) h8 hP2 a c ha (by omega)) (by omega) ?_
        rintro r M3 ⟨rfl, hF3, hP3⟩
        have hpr : aPrf M (nI a) c = lnp (sI M 0 0 11 (nI 0)) a c (a + 1) := by
          unfold aPrf
          rw [tN_nI (by omega)]; rfl
        rw [hpr] at hq
        have fin : ∀ v, qProof M (nI a) (nI c) = ye v → Wp E (d + 14) m_CS_proof 71 [some (vP 0 0), some (vI (nI a)), some (vI (nI c)), some (vI (oI (lnp (sI M 0 0 11 (nI 0)) a c (a + 1))))] [vI v, vP 0 0] M3 Q := by
          intro v e
          refine go ok_CS_proof [] 60 ?_
          refine x_cans E _ _ (by omega) ?_
          rw [← hQ]
          exact cqs_ye (hFM.tr hF3) hP3.2.2.1 e
        cases hl : lnp (sI M 0 0 11 (nI 0)) a c (a + 1) with
        | none =>
          rw [hl] at hq fin
          refine And.intro (fun e => absurd rfl e) (fun _ => ?_)
          exact fin _ hq
        | some b =>
          have hbl : b < a + 1 := by unfold lnp at hl; exact chp_lt _ _ hl
          rw [hl] at hq fin
          refine And.intro (fun _ => ?_) (fun e => absurd e (nI_ne_m (show b < 2 ^ 31 by omega) (by omega) (by omega)))
          exact fin _ hq
  refine xq d ok_CS_hasText (c_hasText E d M hC) (by omega) ?_
  refine xq (d + 1) ok_CS_isSet (c_isSet E d M hC x) (by omega) ?_
  refine brF (fun q => ?_) (fun q => ?_)
  · exact f26 false (by rw [q]; rfl)
  · refine xq d ok_CS_isChannel (c_isChannel E d M hC y) (by omega) ?_
    refine brF (fun q2 => ?_) (fun q2 => ?_)
    · exact f26 false (by rw [q2, Bool.and_false])
    · exact f26 true (by rw [q, q2]; rfl)
theorem c_fewest (hC : CI M) (n : Nat) (hK : KNm M n) (hn : n + 1 < 2000) (x : Int32) : Mt E (d + 13) m_CS_fewest [vP 0 0, vI x] M (CQs M (qFewest M x) n) := by
  obtain ⟨hX, hB, hx, hW, hN, hA⟩ := id hC
  have h8 := hX.1.2.1.2
  have hc10 := hX.1.1.2
  refine Mt.go ok_CS_fewest [45] 60 rfl ?_
  refine xq d ok_CS_hasText (c_hasText E d M hC) (by omega) ?_
  refine xq (d + 1) ok_CS_isSet (c_isSet E d M hC x) (by omega) ?_
  refine xc d ok_CS_isRefused (c_isRefused E d M (hT M) (aSet M x)) (by omega) ?_
  rintro r M1 ⟨rfl, rfl⟩
  cases q1 : hT M with
  | false =>
    refine And.intro (fun e => absurd (show nI 1 = nI 0 from e) (by decide)) (fun _ => ?_)
    have ht : tWhy M x (nI 1) = 1 := by unfold tWhy; rw [q1]; rfl
    exact cqs_no hK hn (by unfold qFewest; rw [ht, if_pos (by decide)]; rfl)
  | true =>
    cases q2 : aSet M x with
    | false =>
      refine And.intro (fun e => absurd (show nI 1 = nI 0 from e) (by decide)) (fun _ => ?_)
      have ht : tWhy M x (nI 1) = 2 := by unfold tWhy; rw [q1, q2]; rfl
      exact cqs_no hK hn (by unfold qFewest; rw [ht, if_pos (by decide)]; rfl)
    | true =>
      refine And.intro (fun _ => ?_) (fun e => absurd (show nI 0 = nI 0 from rfl) e)
      obtain ⟨a, ha, rfl⟩ := aSet_at hX.1 q2
      have hp8 := pow_le8 h8
      have hc1 : 1 ≤ cN M := hC1c hC q1
      have hch : aCh M (nI 1) = true := by
        unfold aCh
        rw [decide_eq_true ((nI_leI (by omega) (by omega)).mpr (by omega)), decide_eq_true ((nI_leI (by omega) (by omega)).mpr hc1)]; rfl
      have ht : tWhy M (nI a) (nI 1) = 0 := by unfold tWhy; rw [q1, q2, hch]; rfl
      have hq : qFewest M (nI a) = if nI a = nI 0 then ye (nI 0) else ye (few (aFit M (nI a)) 1 (cN M)) := by unfold qFewest; rw [ht, if_neg (by decide)]
      have hC1 : CI (sI M 0 0 11 (nI 0)) := hC
      have hK1 : KNm (sI M 0 0 11 (nI 0)) n := hK
      refine And.intro (fun w => ?_) (fun w => ?_)
      · rw [if_neg w] at hq
        refine xc (d + 2) ok_Packer_learn (c_learn E d _ n hC1 (sN_hT hC q1) hK1 hn) (by omega) ?_
        rintro r M2 ⟨rfl, hF2, h02, hP2⟩
        have key : ∀ k, k ≤ cN M → few (aFit M (nI a)) 1 (cN M) = few (aFit M (nI a)) (k + 1) (cN M - k) → ∀ N, FC M N → PU (sI M 0 0 11 (nI 0)) N (n + 1) → Wp E (d + 13) m_CS_fewest 45 [some (vP 0 0), some (vI (nI a)), some (vI (nI (k + 1)))] [] N (CQs M (qFewest M (nI a)) n) := by
          refine loopUp (cN M) ?_ ?_
          · intro e N hFN hPN
            have hcc : N.1 30 (N.2.2 0 0 9) 10 = nI (cN M) := by
              rw [hFN.2, hFN.1 30 _ 10 rfl, hW.1.1, hX.1.1.1]
            refine go ok_CS_fewest [] 60 ?_
            refine qLt hcc rfl (by omega) (by omega) (fun _ => ?_) (fun q => absurd q (by omega))
            refine x_cans E _ _ (by omega) ?_
            refine cqs_ye hFN hPN.2.2.1 ?_
            rw [hq, e, Nat.sub_self]; rfl
          · intro k hk ih e N hFN hPN
            have hcc : N.1 30 (N.2.2 0 0 9) 10 = nI (cN M) := by
              rw [hFN.2, hFN.1 30 _ 10 rfl, hW.1.1, hX.1.1.1]
            rw [show cN M - k = (cN M - (k + 1)) + 1 by omega, few] at e
            refine go ok_CS_fewest [45] 60 ?_
            refine qLt hcc rfl (by omega) (by omega) (fun q => absurd q (by omega)) (fun _ => ?_)
            refine x_fit E d (B := sI M 0 0 11 (nI 0)) h8 hPN a (k + 1) ha (by omega) (by omega) (fun M3 hF3 hP3 => ?_)
            have e2 : aFit (sI M 0 0 11 (nI 0)) (nI a) (k + 1) = aFit M (nI a) (k + 1) := rfl
            rw [e2]
            refine brF (fun q => ?_) (fun q => ?_)
            · rw [q] at e
              exact nm_r (nI_add _ _) (ih e M3 (hFN.tr hF3.fc) hP3)
            · rw [q] at e
              refine x_cans E _ _ (by omega) ?_
              refine cqs_ye (hFN.tr hF3.fc) hP3.2.2.1 ?_
              rw [hq, e]; rfl
        exact key 0 (by omega) rfl M2 ((FC_sI (FC.rf M) rfl).tr hF2) hP2
      · refine x_cans E _ _ (by omega) ?_
        rw [sI_sI, hq, if_pos w]
        exact cqs_ye (N := M) (FC.rf M) (KNm_up hK hn) rfl
end C5
