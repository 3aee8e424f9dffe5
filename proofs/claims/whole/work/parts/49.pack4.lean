/-! the class: the packer learns; fits -/
def scC (i k : Nat) : Bool := (Nat.ble 14 i && Nat.ble i 27) || (Nat.beq i 0 && Nat.beq k 11)
/-- what a question of the class leaves alone -/
def FC (B M : Me) : Prop := (∀ i r k, scC i k = false → M.1 i r k = B.1 i r k) ∧ M.2 = B.2
theorem FC.rf (M : Me) : FC M M := ⟨fun _ _ _ _ => rfl, rfl⟩
theorem FC.tr {M M' M'' : Me} (h : FC M M') (h' : FC M' M'') : FC M M'' := ⟨fun i r k e => (h'.1 i r k e).trans (h.1 i r k e), h'.2.trans h.2⟩
theorem FC_sI {B M : Me} {i r k : Nat} {x : Int32} (h : FC B M) (hs : scC i k = true) : FC B (sI M i r k x) := ⟨fun a b c e => (up3_ne (fun z => by obtain ⟨rfl, rfl, rfl⟩ := z; rw [hs] at e; cases e)).trans (h.1 a b c e), h.2⟩
theorem scC_19 (k : Nat) : scC 19 k = true := rfl
theorem FP.fc {M M' : Me} (h : FP M M') : FC M M' := ⟨fun i r k e => h.1 i r k (fun q => by rw [q] at e; cases e) (fun q => by rw [q] at e; cases e), h.2⟩
def mxC (B : Me) (f : Nat → Nat → Nat → Int32) : Me := (fun i r k => cond (scC i k) (f i r k) (B.1 i r k), B.2)
theorem FC_eq {B M : Me} (h : FC B M) : M = mxC B M.1 := by
  unfold mxC
  refine Prod.ext ?_ h.2
  funext i r k
  dsimp only
  cases e : scC i k with
  | true => rfl
  | false => exact h.1 i r k e
theorem CI_fc {B M : Me} (h : FC B M) (hC : CI B) : CI M := by
  rw [FC_eq h]; exact hC
theorem fc_aX {B M : Me} (h : FC B M) : aX M = aX B := by rw [FC_eq h]; rfl
theorem fc_aFit {B M : Me} (h : FC B M) : aFit M = aFit B := by rw [FC_eq h]; rfl
theorem fc_sN {B M : Me} (h : FC B M) : sN M = sN B := by rw [FC_eq h]; rfl
def lsC (M : Me) (s : Nat) : Int32 := bif decide (s < sN M) then S32 (aLst M s) else nI 0
def clC (M : Me) (s : Nat) : Int32 := S32 (clS M s)
def brC (M : Me) (s : Nat) : Int32 := S32 (brS M s)
/-- the packer knows the lists and who disturbs whom -/
def PU (B M : Me) (n : Nat) : Prop := (∀ s, s < 8 → M.1 15 0 s = lsC B s) ∧ PkD M (clC B) (brC B) ∧ KNm M n ∧ Kage M ∧ M.1 14 0 6 = nI (sN B)
theorem DD_sy (B : Me) (h8 : sN B ≤ 8) : Dsy (DD (clC B) (brC B)) := by
  intro s c t e
  have h1 : bt (clC B s) t = bt (clC B t) s := by
    unfold clC
    rcases Nat.lt_or_ge t 32 with q | q
    · rcases Nat.lt_or_ge s 32 with q2 | q2
      · rw [S32_at q, S32_at q2]
        unfold clS
        rw [aClash_sy B s t, show decide (t = s) = decide (s = t) from decide_eq_decide.mpr ⟨Eq.symm, Eq.symm⟩]
        cases decide (s < sN B) <;> cases decide (t < sN B) <;> rfl
      · rw [b_big q2, S32_at q]
        unfold clS
        rw [decide_eq_false (show ¬ s < sN B by omega)]; rfl
    · rcases Nat.lt_or_ge s 32 with q2 | q2
      · rw [b_big q, S32_at q2]
        unfold clS
        rw [decide_eq_false (show ¬ t < sN B by omega)]; rfl
      · rw [b_big q, b_big q2]
  have h2 : bt (brC B s) t = bt (brC B t) s := by
    unfold brC
    rcases Nat.lt_or_ge t 32 with q | q
    · rcases Nat.lt_or_ge s 32 with q2 | q2
      · rw [S32_at q, S32_at q2]
        unfold brS
        rw [aBrush_sy B s t, show decide (t = s) = decide (s = t) from decide_eq_decide.mpr ⟨Eq.symm, Eq.symm⟩]
        cases decide (s < sN B) <;> cases decide (t < sN B) <;> rfl
      · rw [b_big q2, S32_at q]
        unfold brS
        rw [decide_eq_false (show ¬ s < sN B by omega)]; rfl
    · rcases Nat.lt_or_ge s 32 with q2 | q2
      · rw [b_big q, S32_at q2]
        unfold brS
        rw [decide_eq_false (show ¬ t < sN B by omega)]; rfl
      · rw [b_big q, b_big q2]
  unfold DD
  rw [h1, h2, show decide (c = e) = decide (e = c) from decide_eq_decide.mpr ⟨Eq.symm, Eq.symm⟩, Bool.or_comm]
/-- rows of the packer and of the reference -/
theorem Vr_B {B : Me} (h8 : sN B ≤ 8) {set : Int32} (hset : ∀ t, bt set t = true → t < sN B) {F : Nat → Nat → Bool} {r : Nat → Nat} : Vr (bt set) F (DD (clC B) (brC B)) 8 r ↔ Vr (bt set) F (aDist B) (sN B) r := by
  have key : ∀ t u, t < sN B → u < t → ∀ c e, DD (clC B) (brC B) t c u e = aDist B t c u e := by
    intro t u ht hu c e
    unfold DD clC brC aDist
    rw [S32_at (by omega), S32_at (by omega)]
    unfold clS brS
    rw [decide_eq_true ht, decide_eq_true (show u < sN B by omega), decide_eq_false (show ¬ u = t by omega)]
    rfl
  constructor
  · intro h t ht hS
    obtain ⟨a1, a2⟩ := h t (by omega) hS
    exact ⟨a1, fun u hu hSu => by rw [← key t u ht hu]; exact a2 u hu hSu⟩
  · intro h t ht hS
    have ht' := hset t hS
    obtain ⟨a1, a2⟩ := h t ht' hS
    exact ⟨a1, fun u hu hSu => by rw [key t u ht' hu]; exact a2 u hu hSu⟩
theorem aX_eq (M : Me) (set : Int32) (m : Nat) : aX M set m = exX (bt set) (aLst M) (aDist M) m (sN M) := rfl
theorem aFit_ex {M : Me} {set : Int32} {m : Nat} : aFit M set m = true ↔ ∃ r, Vr (bt set) (Lm (aLst M) m) (aDist M) (sN M) r := by
  unfold aFit
  rw [aX_eq]
  constructor
  · intro h
    cases hX : exX (bt set) (aLst M) (aDist M) m (sN M) with
    | nil => rw [hX] at h; cases h
    | cons a X =>
      have : a ∈ exX (bt set) (aLst M) (aDist M) m (sN M) := by rw [hX]; exact List.mem_cons_self
      exact ⟨a, (exX_mem.mp this).1⟩
  · rintro ⟨r, hr⟩
    have : (fun t => bif bt set t && decide (t < sN M) then r t else 0) ∈ exX (bt set) (aLst M) (aDist M) m (sN M) := by
      refine exX_mem.mpr ⟨fun t ht hS => ?_, fun t ht => ?_⟩
      · obtain ⟨a1, a2⟩ := hr t ht hS
        have e1 : (bif bt set t && decide (t < sN M) then r t else 0) = r t := by rw [hS, decide_eq_true ht]; rfl
        dsimp only
        rw [e1]
        refine ⟨a1, fun u hu hSu => ?_⟩
        have e2 : (bif bt set u && decide (u < sN M) then r u else 0) = r u := by rw [hSu, decide_eq_true (show u < sN M by omega)]; rfl
        rw [e2]
        exact a2 u hu hSu
      · cases hS : bt set t with
        | false => rfl
        | true => rw [decide_eq_false (fun q => ht ⟨hS, q⟩)]; rfl
    cases hX : exX (bt set) (aLst M) (aDist M) m (sN M) with
    | nil => rw [hX] at this; cases this
    | cons a X => rfl
/-- the channels that the packer leaves at the beginning -/
theorem lsC_at {B : Me} {t m : Nat} (ht : t < sN B) (hm : m ≤ 10) (i : Nat) : (bt (lsC B t) i && decide (i < m)) = Lm (aLst B) m t i := by
  unfold lsC Lm
  rw [decide_eq_true ht, cond_true]
  rcases Nat.lt_or_ge i 32 with e | e
  · rw [S32_at e]
  · rw [decide_eq_false (show ¬ i < m by omega), Bool.and_false, Bool.and_false]
theorem PFit_B {B M : Me} {n : Nat} (h8 : sN B ≤ 8) (hP : PU B M n) {set : Int32} (hset : ∀ t, bt set t = true → t < sN B) {m : Nat} (hm : m ≤ 10) : PFit (M.1 15 0) (M.1 16 0) (M.1 17 0) set m ↔ aFit B set m = true := by
  obtain ⟨p1, p2, -⟩ := hP
  rw [aFit_ex]
  have e1 : ∀ t, t < 8 → bt set t = true → ∀ i, (bt (M.1 15 0 t) i && decide (i < m)) = Lm (aLst B) m t i := fun t ht hS i => by
    rw [p1 t ht]; exact lsC_at (hset t hS) hm i
  constructor
  · rintro ⟨r, hr⟩
    exact ⟨r, (Vr_B h8 hset).mp (Vr_cg (fun _ _ => rfl) e1 (Vr_dd (fun s hs => p2 s hs) hr))⟩
  · rintro ⟨r, hr⟩
    exact ⟨r, Vr_dd (fun s hs => ⟨(p2 s hs).1.symm, (p2 s hs).2.symm⟩) (Vr_cg (fun _ _ => rfl) (fun t ht hS i => (e1 t ht hS i).symm) ((Vr_B h8 hset).mpr hr))⟩
theorem PU_fp {B M M' : Me} {n : Nat} (h : FP M M') (hK : KNm M' n) (hP : PU B M n) : PU B M' n := by
  obtain ⟨p1, p2, p3, p4, p5⟩ := hP
  refine ⟨fun s hs => by rw [h.1 15 0 s (by omega) (by omega)]; exact p1 s hs, fun s hs => ⟨by rw [h.1 16 0 s (by omega) (by omega)]; exact (p2 s hs).1, by rw [h.1 17 0 s (by omega) (by omega)]; exact (p2 s hs).2⟩, hK, ?_, by rw [h.1 14 0 6 (by omega) (by omega)]; exact p5⟩
  unfold Kage
  rw [h.1 14 0 7 (by omega) (by omega)]; exact p4
/-- who brush clash -/
theorem br_cl {M : Me} (h : RcB M) {s t : Nat} (hb : brS M s t = true) : clS M s t = true := by
  unfold brS at hb
  simp only [Bool.and_eq_true, decide_eq_true_eq] at hb
  obtain ⟨h1, h2, h3, h4⟩ := hb
  obtain ⟨a, ha, a60⟩ := h s h1
  obtain ⟨b, hb, b60⟩ := h t h2
  have ra : aRch M s = nI a := ha
  have rb : aRch M t = nI b := hb
  have em : aMx M s t = nI (max a b) := by
    unfold aMx
    rw [ra, rb]
    by_cases w : b < a
    · rw [if_pos ((nI_ltI (by omega) (by omega)).mpr w), Nat.max_eq_left (by omega)]
    · rw [if_neg (fun z => w ((nI_ltI (by omega) (by omega)).mp z)), Nat.max_eq_right (by omega)]
  have hc : aClash M s t = true := by
    unfold aBrush at h4
    have h4 := of_decide_eq_true h4
    rw [em, nI_mul] at h4
    unfold aClash
    rw [ra, rb, nI_s8, nI_mul]
    have u1 : (a + b) * (a + b) ≤ 120 * 120 := Nat.mul_le_mul (by omega) (by omega)
    have u2 : max a b * max a b ≤ (a + b) * (a + b) := Nat.mul_le_mul (by omega) (by omega)
    exact decide_eq_true (Int32.le_trans h4 ((nI_leI (by omega) (by omega)).mpr u2))
  unfold clS
  simp only [Bool.and_eq_true, decide_eq_true_eq]
  exact ⟨h1, h2, h3, hc⟩
theorem brC_cl {M : Me} (h : RcB M) {s t : Nat} (hb : bt (brC M s) t = true) : bt (clC M s) t = true := by
  unfold brC at hb
  unfold clC
  rcases Nat.lt_or_ge t 32 with e | e
  · rw [S32_at e] at hb
    rw [S32_at e]
    exact br_cl h hb
  · rw [b_big e] at hb; cases hb
theorem sN_hT {M : Me} (hC : CI M) (h : hT M = true) : 0 < sN M := by
  rw [hC.2.2.1] at h
  exact of_decide_eq_true h
theorem sN_aSt {M : Me} {x : Int32} (hC : CI M) (h : aSt M x = true) : 0 < sN M := by
  obtain ⟨s, hs, -⟩ := aSt_at hC.1.1 h
  omega
theorem Nd_0 {M : Me} {q : Nat} (h : NdK M q) : M.1 27 0 0 = nI 0 := by
  obtain ⟨v, h1, -, h3⟩ := h 0 (Nat.two_pow_pos q)
  have : v ≤ 0 := h3 (fun _ => nI 0) 0 ⟨fun _ => 0, fun t _ hS => by rw [b_0] at hS; cases hS⟩
  rw [h1, show v = 0 by omega]
section K5
variable (E : EV) (d : Nat)
theorem c_learn (M : Me) (n : Nat) (hC : CI M) (hs0 : 0 < sN M) (hK : KNm M n) (hn : n + 1 < 2000) : Mt E (d + 2) m_Packer_learn [vP 14 0, vP 30 (pl M), vP 4 0] M (fun r M' => r = none ∧ FC M M' ∧ M'.1 0 = M.1 0 ∧ PU M M' (n + 1)) := by
  obtain ⟨hX, hB, hx, hW, hN, hA0⟩ := id hC
  have hRc : RcB M := hA0.2.2
  have h8 := hX.1.2.1.2
  obtain ⟨-, a, ⟨ha, hNd⟩, han, hk⟩ := hK
  obtain ⟨q, hq, hq8, hqa, hnd⟩ := id hNd
  have hcnt : M.1 31 (pl M) 5 = nI (sN M) := hW.1.2.1.trans hX.1.2.1.1
  generalize hQ : (fun (r : Option AV) (M' : Me) => r = none ∧ FC M M' ∧ M'.1 0 = M.1 0 ∧ PU M M' (n + 1)) = Q
  -- it is another age
  have f182 : ∀ N : Me, FC M N → N.1 0 = M.1 0 → N.1 14 0 7 = M.1 14 0 7 → N.1 14 0 6 = nI (sN M) → N.1 20 0 = M.1 20 0 → (∀ s, s < 8 → N.1 15 0 s = lsC M s ∧ N.1 16 0 s = clC M s ∧ N.1 17 0 s = brC M s) → NdK N (sN M) → ∀ j3 j4 j5 j6, Wp E (d + 2) m_Packer_learn 182 [some (vP 14 0), some (vP 30 (pl M)), some (vP 4 0), j3, j4, j5, j6] [] N Q := by
    intro N hF h0 h14 h6 h20 hl hd j3 j4 j5 j6
    refine go ok_Packer_learn [] 60 ?_
    rw [← hQ]
    have ea : N.1 14 0 7 + nI 1 = nI (a + 1) := by rw [h14, ha, nI_add]
    refine And.intro rfl ⟨FC_sI hF rfl, ?_, fun s hs => (hl s hs).1, fun s hs => (hl s hs).2, ⟨hn, a + 1, ⟨ea, sN M, h6, h8, fun _ => by omega, NdK_fr rfl rfl rfl hd⟩, by omega, fun k hk2 => ?_⟩, ?_, h6⟩
    · rw [← h0]; rfl
    · obtain ⟨v, v1, v2, v3⟩ := hk k hk2
      refine ⟨v, ?_, by omega, fun _ z => absurd z (by omega)⟩
      show N.1 20 0 k = nI v
      rw [h20]; exact v1
    · unfold Kage
      show ¬ N.1 14 0 7 + nI 1 = nI 0
      rw [ea]
      exact fun z => absurd ((nI_eq (by omega) (by omega)).mp z) (by omega)
  -- stations below t are learned
  have key : ∀ t, t ≤ 8 → ∀ N c b, FC M N → N.1 0 = M.1 0 → N.1 14 0 7 = M.1 14 0 7 → N.1 14 0 6 = nI (sN M) → N.1 20 0 = M.1 20 0 → N.1 27 0 = M.1 27 0 → (∀ s, s < t → N.1 15 0 s = lsC M s ∧ N.1 16 0 s = clC M s ∧ N.1 17 0 s = brC M s) → (c = false → N.1 15 0 = M.1 15 0) → (b = false → N.1 16 0 = M.1 16 0 ∧ N.1 17 0 = M.1 17 0 ∧ M.1 14 0 6 = nI (sN M)) → ∀ j6, Wp E (d + 2) m_Packer_learn 37 [some (vP 14 0), some (vP 30 (pl M)), some (vP 4 0), some (vI (bI c)), some (vI (bI b)), some (vI (nI t)), j6] [] N Q := by
    refine loopUp 8 ?_ ?_
    · intro N c b hF h0 h14 h6 h20 h27 hl hc hb j6
      refine go ok_Packer_learn [173, 182] 60 ?_
      refine cLe (by omega) (by omega) (fun _ => ?_) (fun z => absurd z (by omega))
      refine brF (fun e => ?_) (fun e => ?_)
      · obtain ⟨b2, b3, b4⟩ := hb e
        have eq : q = sN M := (nI_eq (by omega) (by omega)).mp (hq.symm.trans b4)
        have hdN : NdK N (sN M) := by
          rw [← eq]
          exact NdK_fr b2 b3 h27 hnd
        have ha1 : 1 ≤ a := hqa (by omega)
        refine go ok_Packer_learn [182] 60 ?_
        refine brN (fun e3 => ?_) (fun e3 => ?_)
        · exact f182 N hF h0 h14 h6 h20 hl hdN _ _ _ _
        · refine brF (fun _ => ?_) (fun z => by rw [e] at z; cases z)
          rw [← hQ]
          refine And.intro rfl ⟨hF, h0, fun s hs => (hl s hs).1, fun s hs => (hl s hs).2, ⟨hn, a, ⟨h14.trans ha, sN M, h6, h8, fun _ => ha1, hdN⟩, by omega, fun k hk2 => ?_⟩, ?_, h6⟩
          · rw [h20, hc e3, b2, b3]; exact hk k hk2
          · unfold Kage
            rw [h14, ha]
            exact fun z => absurd ((nI_eq (by omega) (by omega)).mp z) (by omega)
      · refine xc (d + 1) ok_Packer_learnNeeded (c_learnNeeded E d N (sN M) h8 h6 (by rw [h27]; exact Nd_0 hnd) (fun s hs t ht => ?_)) (by omega) ?_
        · rw [(hl s hs).2.2] at ht
          rw [(hl s hs).2.1]
          exact brC_cl hRc ht
        rintro r N' ⟨rfl, g1, g2, g3⟩
        have k182 := f182 N' (hF.tr ⟨fun i r k z => g1 i r k (fun w => by rw [w] at z; cases z), g2⟩) (by rw [← h0]; funext r k; exact g1 0 r k (by omega)) ((g1 14 0 7 (by omega)).trans h14) ((g1 14 0 6 (by omega)).trans h6) (by rw [← h20]; funext k; exact g1 20 0 k (by omega)) (fun s hs => by rw [g1 15 0 s (by omega), g1 16 0 s (by omega), g1 17 0 s (by omega)]; exact hl s hs) g3
        refine go ok_Packer_learn [182] 60 ?_
        refine brN (fun e3 => ?_) (fun e3 => ?_)
        · exact k182 _ _ _ _
        · refine brF (fun z => by rw [e] at z; cases z) (fun _ => ?_)
          exact k182 _ _ _ _
    · intro t ht ih N c b hF h0 h14 h6 h20 h27 hl hc hb j6
      have hCN := CI_fc hF hC
      obtain ⟨hXN, -, -, hWN, hNN, -⟩ := id hCN
      have hpl : pl N = pl M := by
        show N.2.2 0 0 9 = M.2.2 0 0 9
        rw [hF.2]
      have hx := show Mt E d m_Now_listOf [vP 4 0, vP 30 (pl M), vI (nI t)] N (RP (vI (lsC M t)) N) by
        rw [← hpl]
        unfold lsC
        by_cases e : t < sN M
        · rw [decide_eq_true e, cond_true]
          have : aLst M t = aLst N t := by rw [FC_eq hF]; rfl
          rw [this]
          exact c_listOf E d N hWN hNN t (by rw [fc_sN hF]; exact e) ht
        · rw [decide_eq_false e, cond_false]
          exact c_listOf0 E d N hWN t (by rw [fc_sN hF]; exact e) ht
      have hcl : N.1 46 (pl M) t = clC M t := by
        rw [hF.1 46 _ t rfl]; exact (hW.2.1 t ht).1
      have hbr : N.1 47 (pl M) t = brC M t := by
        rw [hF.1 47 _ t rfl]; exact (hW.2.1 t ht).2.1
      -- all is noted
      have f121 : ∀ c b, (c = false → N.1 15 0 = M.1 15 0 ∧ N.1 15 0 t = lsC M t) → (b = false → (N.1 16 0 = M.1 16 0 ∧ N.1 17 0 = M.1 17 0 ∧ M.1 14 0 6 = nI (sN M)) ∧ N.1 16 0 t = clC M t ∧ N.1 17 0 t = brC M t) → Wp E (d + 2) m_Packer_learn 121 [some (vP 14 0), some (vP 30 (pl M)), some (vP 4 0), some (vI (bI c)), some (vI (bI b)), some (vI (nI t)), some (vI (lsC M t))] [] N Q := by
        intro c b hc hb
        refine go ok_Packer_learn [37] 60 ?_
        refine ix t (show _ < 8 by omega) rfl ?_
        refine ix t (show _ < 8 by omega) rfl ?_
        refine ix t (show _ < 8 by omega) rfl ?_
        refine ix t (show _ < 8 by omega) rfl ?_
        refine ix t (show _ < 8 by omega) rfl ?_
        refine nm_r (nI_add _ _) ?_
        have := ih (sI (sI (sI N 15 0 t (lsC M t)) 16 0 t (clC M t)) 17 0 t (brC M t)) c b (FC_sI (FC_sI (FC_sI hF rfl) rfl) rfl) h0 h14 h6 h20 h27 (fun s hs => ?_) (fun e => ?_) (fun e => ⟨?_, ?_, (hb e).1.2.2⟩) (some (vI (lsC M t)))
        · rw [← hcl, ← hbr] at this
          exact this
        · rw [sI_at, sI_at, sI_at, sI_at, sI_at, sI_at, sI_at, sI_at, sI_at]
          by_cases e : s = t
          · subst e
            rw [if_neg (by omega), if_neg (by omega), if_pos ⟨rfl, rfl, rfl⟩, if_neg (by omega), if_pos ⟨rfl, rfl, rfl⟩, if_pos ⟨rfl, rfl, rfl⟩]
            exact ⟨rfl, rfl, rfl⟩
          · obtain ⟨l1, l2, l3⟩ := hl s (by omega)
            rw [if_neg (by omega), if_neg (by omega), if_neg (by omega), if_neg (by omega), if_neg (by omega), if_neg (by omega), if_neg (by omega), if_neg (by omega), if_neg (by omega)]
            exact ⟨l1, l2, l3⟩
        · obtain ⟨c1, c2⟩ := hc e
          funext k
          rw [sI_at, if_neg (by omega), sI_at, if_neg (by omega), sI_at]
          by_cases z : k = t
          · rw [if_pos ⟨rfl, rfl, z⟩, z, ← c1, c2]
          · rw [if_neg (fun w => z w.2.2), c1]
        · obtain ⟨⟨c1, -, -⟩, c2, -⟩ := hb e
          funext k
          rw [sI_at, if_neg (by omega), sI_at]
          by_cases z : k = t
          · rw [if_pos ⟨rfl, rfl, z⟩, z, ← c1, c2]
          · rw [if_neg (fun w => z w.2.2), sI_at, if_neg (by omega), c1]
        · obtain ⟨⟨-, c1, -⟩, -, c2⟩ := hb e
          funext k
          rw [sI_at]
          by_cases z : k = t
          · rw [if_pos ⟨rfl, rfl, z⟩, z, ← c1, c2]
          · rw [if_neg (fun w => z w.2.2), sI_at, if_neg (by omega), sI_at, if_neg (by omega), c1]
      have f75 : ∀ c, (c = false → N.1 15 0 = M.1 15 0 ∧ N.1 15 0 t = lsC M t) → Wp E (d + 2) m_Packer_learn 75 [some (vP 14 0), some (vP 30 (pl M)), some (vP 4 0), some (vI (bI c)), some (vI (bI b)), some (vI (nI t)), some (vI (lsC M t))] [] N Q := by
        intro c hc
        have ye := f121 c true hc (fun z => by cases z)
        refine go ok_Packer_learn [121] 60 ?_
        refine brN (fun _ => ye) (fun e => ?_)
        refine ix t (show _ < 8 by omega) rfl ?_
        refine ix t (show _ < 8 by omega) rfl ?_
        refine And.intro (fun _ => ye) (fun w2 => ?_)
        refine ix t (show _ < 8 by omega) rfl ?_
        refine ix t (show _ < 8 by omega) rfl ?_
        refine And.intro (fun w3 => ?_) (fun _ => ye)
        have w2 : N.1 16 0 t = N.1 46 (pl M) t := w2
        have w3 : N.1 17 0 t = N.1 47 (pl M) t := w3
        exact f121 c false hc (fun _ => ⟨hb e, by rw [w2, hcl], by rw [w3, hbr]⟩)
      have ye := f75 true (fun z => by cases z)
      refine go ok_Packer_learn [75] 60 ?_
      refine cLe (by omega) (by omega) (fun z => absurd z (by omega)) (fun _ => ?_)
      refine xq d ok_Now_listOf hx (by omega) ?_
      refine brN (fun _ => ye) (fun e => ?_)
      refine ix t (show _ < 8 by omega) rfl ?_
      refine And.intro (fun w1 => ?_) (fun _ => ye)
      exact f75 false (fun _ => ⟨hc e, w1⟩)
  have start : ∀ b, (b = false → M.1 14 0 6 = nI (sN M)) → Wp E (d + 2) m_Packer_learn 21 [some (vP 14 0), some (vP 30 (pl M)), some (vP 4 0), some (vI (nI 0)), none, none, none] [vI (bI b)] M Q := by
    intro b hb
    refine go ok_Packer_learn [37] 60 ?_
    have := key 0 (by omega) (sI M 14 0 6 (nI (sN M))) false b (FC_sI (FC.rf M) rfl) rfl rfl rfl rfl rfl (fun s hs => absurd hs (Nat.not_lt_zero _)) (fun _ => rfl) (fun e => ⟨rfl, rfl, hb e⟩) none
    rw [← hcnt] at this
    exact this
  refine Mt.go ok_Packer_learn [21] 60 rfl ?_
  refine And.intro (fun w => ?_) (fun _ => ?_)
  · exact start false (fun _ => w.trans hcnt)
  · exact start true (fun z => by cases z)
/-- packs, when all is learned -/
theorem x_fit {B M : Me} {n D : Nat} {K : Option AV → Me → Prop} (d : Nat) (h8 : sN B ≤ 8) (hP : PU B M n) (x m : Nat) (hx : x < 2 ^ sN B) (hm : m ≤ 10) (hd : d + 11 < D) (hk : ∀ M', FP M M' → PU B M' n → K (some (vI (bI (aFit B (nI x) m)))) M') : codeW m_Packer_packs ∈ TW ∧ CallK E D m_Packer_packs [vP 14 0, vI (nI x), vI (nI m)] M K := by
  have h256 : x < 256 := Nat.lt_of_lt_of_le hx (Nat.pow_le_pow_right (n := 2) (i := sN B) (j := 8) (by omega) h8)
  have hset : ∀ t, bt (nI x) t = true → t < sN B := by
    intro t h
    rcases Nat.lt_or_ge t 32 with e | e
    · rw [b_nI _ e] at h
      rcases Nat.lt_or_ge t (sN B) with q | q
      · exact q
      · rw [Nat.testBit_lt_two_pow (Nat.lt_of_lt_of_le hx (Nat.pow_le_pow_right (by omega) q))] at h
        cases h
    · rw [b_big e] at h; cases h
  refine xc (d + 11) ok_Packer_packs (c_packs E d M n (sN B) hP.2.2.1 hP.2.2.2.1 hP.2.2.2.2 h8 hP.2.1 (DD_sy B h8) x m h256 hx hm) hd ?_
  rintro r M' ⟨b, rfl, hb, hF, hK⟩
  have := PFit_B h8 hP hset hm
  have e : b = aFit B (nI x) m := by
    rw [Bool.eq_iff_iff, hb, this]
  rw [e]
  exact hk M' hF (PU_fp hF hK hP)
end K5
