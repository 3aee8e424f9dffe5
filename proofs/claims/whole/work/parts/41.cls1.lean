/-! the class: leaves, sites, who disturbs whom, what is now -/
def clS (M : Me) (s t : Nat) : Bool := decide (s < sN M) && (decide (t < sN M) && (!decide (t = s) && aClash M s t))
def brS (M : Me) (s t : Nat) : Bool := decide (s < sN M) && (decide (t < sN M) && (!decide (t = s) && aBrush M s t))
def opS (M : Me) (s i : Nat) : Bool := decide (s < sN M) && (decide (i < cN M) && (List.range (bN M)).all (fun b => !(aCnt M b s && bt (M.1 63 0 b) i)))
def dsC (M : Me) (s c t e : Nat) : Bool := decide (s < sN M) && (decide (t < sN M) && (!decide (t = s) && aDist M s c t e))
/-- what the class tells of a text and of now is what the reference tells; p is the plan's region -/
def CWp (M : Me) (p : Nat) : Prop := (M.1 30 p 10 = M.1 60 0 17 ∧ M.1 31 p 5 = M.1 60 0 18 ∧ M.1 36 p 5 = M.1 60 0 19 ∧ M.1 31 p 4 = nI 8 ∧ M.1 36 p 4 = nI 4) ∧ (∀ s, s < 8 → M.1 46 p s = S32 (clS M s) ∧ M.1 47 p s = S32 (brS M s) ∧ M.1 49 p s = S32 (opS M s)) ∧ (∀ s, s < sN M → M.1 32 p s = M.1 62 0 (3 * s) ∧ M.1 33 p s = M.1 62 0 (3 * s + 1) ∧ M.1 34 p s = M.1 62 0 (3 * s + 2)) ∧ ∀ b, b < bN M → M.1 37 p b = M.1 62 0 (3 * (8 + b)) ∧ M.1 38 p b = M.1 62 0 (3 * (8 + b) + 1) ∧ M.1 39 p b = M.1 62 0 (3 * (8 + b) + 2) ∧ M.1 40 p b = M.1 63 0 b ∧ M.1 48 p b = S32 (fun s => decide (s < sN M) && aCnt M b s)
def CWn (M : Me) : Prop := M.1 4 0 3 = M.1 65 0 24 ∧ M.1 4 0 4 = M.1 65 0 25 ∧ ∀ s, s < sN M → M.1 5 0 s = M.1 65 0 s ∧ M.1 6 0 s = M.1 65 0 (8 + s) ∧ M.1 7 0 s = M.1 65 0 (16 + s)
theorem air_lt {M : Me} (hB : RB M) {t : Nat} (h : aOn M t = true) : t < sN M := by
  unfold aOn at h
  rw [hB.1] at h
  rcases Nat.lt_or_ge t 32 with e | e
  · rw [b_nI _ e] at h
    rcases Nat.lt_or_ge t (sN M) with q | q
    · exact q
    · rw [Nat.testBit_lt_two_pow (Nat.lt_of_lt_of_le hB.2 (Nat.pow_le_pow_right (by omega) q))] at h
      cases h
  · rw [b_big e] at h; cases h
theorem and_b1 {x : Int32} {j : Nat} (h : j < 32) : x &&& b1 j = nI 0 ↔ bt x j = false := by
  constructor
  · intro e
    have e1 := congrArg (fun y => bt y j) e
    simp only [b_and, b1_at h h, b_0] at e1
    simpa using e1
  · intro e
    apply b_ext
    intro i hi
    rw [b_and, b1_at h hi, b_0]
    by_cases c : i = j
    · subst c; rw [e]; rfl
    · simp [c]
theorem aLst_op {M : Me} {s : Nat} (hs : s < sN M) (i : Nat) : aLst M s i = (opS M s i && !bt (M.1 65 0 (16 + s)) i) := by
  unfold aLst lstK opS
  rw [decide_eq_true hs]
  cases decide (i < cN M) <;> cases bt (M.1 65 0 (16 + s)) i <;> simp
theorem aLst_set {M : Me} {s : Nat} (hs : s < sN M) : S32 (opS M s) &&& (M.1 65 0 (16 + s) ^^^ -(nI 1)) = S32 (aLst M s) := S32_eq fun i hi => by rw [b_and, b_not hi, S32_at hi, aLst_op hs]
theorem Mt.of_eq {E : EV} {d : Nat} {m : MC} {as as' : List AV} {M : Me} {Q : Option AV → Me → Prop} (h : Mt E d m as M Q) (e : as = as') : Mt E d m as' M Q := e ▸ h
section C1
variable (E : EV) (d : Nat) (M : Me)
theorem c_bit (j : Nat) : Mt E d m_CS_bit [vI (nI j)] M (RP (vI (b1 j)) M) := Mt.go ok_CS_bit [] 20 rfl (And.intro rfl rfl)
theorem c_channelBit (c : Nat) (h : 1 ≤ c) : Mt E d m_CS_channelBit [vI (nI c)] M (RP (vI (b1 (c - 1))) M) := by
  refine Mt.go ok_CS_channelBit [] 20 rfl (And.intro ?_ rfl)
  unfold b1
  rw [← nI_m1 h]
theorem c_has (x : Int32) (j : Nat) (hj : j < 32) : Mt E d m_CS_has [vI x, vI (nI j)] M (RP (vI (bI (bt x j))) M) := by
  refine Mt.go ok_CS_has [] 20 rfl ?_
  refine And.intro (fun c => ?_) (fun c => ?_)
  · refine And.intro (Or.inl rfl) (And.intro ?_ rfl)
    rw [hasL x hj] at c
    rw [bI_f.mp c]; rfl
  · refine And.intro (Or.inr rfl) (And.intro ?_ rfl)
    rw [hasL x hj] at c
    rw [bI_t.mp c]; rfl
/-- how far from a place, of stations (b = 0) or of borders (b = 1) -/
def cFar (M : Me) (i p k : Nat) (x y : Int32) : Int32 := (M.1 (i + 1) p k - x) * (M.1 (i + 1) p k - x) + (M.1 (i + 2) p k - y) * (M.1 (i + 2) p k - y)
theorem c_farFrom (i p : Nat) (hi : i = 31 ∨ i = 36) (n : Nat) (hn : n = 8 ∧ i = 31 ∨ n = 4 ∧ i = 36) (hm : M.1 i p 4 = nI n) (k : Nat) (hk : k < n) (x y : Int32) : Mt E d m_Sites_farFrom [vP i p, vI (nI k), vI x, vI y] M (RP (vI (cFar M i p k x y)) M) := by
  have hn8 : n ≤ 8 := by omega
  obtain rfl | rfl := hi
  · obtain rfl : n = 8 := by omega
    refine Mt.go ok_Sites_farFrom [] 60 rfl ?_
    refine cLt (by omega) (by omega) (fun q => absurd q (by omega)) (fun _ => ?_)
    refine qLt rfl hm (by omega) (by omega) (fun _ => ?_) (fun q => absurd q (by omega))
    refine ix k (show _ < 8 by omega) rfl ?_
    refine ix k (show _ < 8 by omega) rfl ?_
    exact And.intro rfl rfl
  · obtain rfl : n = 4 := by omega
    refine Mt.go ok_Sites_farFrom [] 60 rfl ?_
    refine cLt (by omega) (by omega) (fun q => absurd q (by omega)) (fun _ => ?_)
    refine qLt rfl hm (by omega) (by omega) (fun _ => ?_) (fun q => absurd q (by omega))
    refine ix k (show _ < 4 by omega) rfl ?_
    refine ix k (show _ < 4 by omega) rfl ?_
    exact And.intro rfl rfl
theorem c_reaching (i p : Nat) (hi : i = 31 ∨ i = 36) (n : Nat) (hn : n = 8 ∧ i = 31 ∨ n = 4 ∧ i = 36) (hm : M.1 i p 4 = nI n) (c : Nat) (hc : M.1 i p 5 = nI c) (hcn : c ≤ n) (x y : Int32) : Mt E (d + 1) m_Sites_reaching [vP i p, vI x, vI y] M (RP (vI (mkS (fun k => decide (cFar M i p k x y ≤ M.1 (i + 3) p k * M.1 (i + 3) p k)) c)) M) := by
  have hn8 : n ≤ 8 := by omega
  have key : ∀ k, k ≤ c → ∀ z, z = mkS (fun k => decide (cFar M i p k x y ≤ M.1 (i + 3) p k * M.1 (i + 3) p k)) k → Wp E (d + 1) m_Sites_reaching 5 [some (vP i p), some (vI x), some (vI y), some (vI z), some (vI (nI k))] [] M (RP (vI (mkS (fun k => decide (cFar M i p k x y ≤ M.1 (i + 3) p k * M.1 (i + 3) p k)) c)) M) := by
    refine loopUp c ?_ ?_
    · rintro z rfl
      have hi2 := hi
      obtain rfl | rfl := hi
      · refine go ok_Sites_reaching [5] 60 ?_
        refine qLe hc rfl (by omega) (by omega) (fun _ => ?_) (fun q => absurd q (by omega))
        exact And.intro rfl rfl
      · refine go ok_Sites_reaching [5] 60 ?_
        refine qLe hc rfl (by omega) (by omega) (fun _ => ?_) (fun q => absurd q (by omega))
        exact And.intro rfl rfl
    · rintro k hk ih z rfl
      have hf := c_farFrom E d M i p hi n hn hm k (by omega) x y
      have fin : ∀ b, b = decide (cFar M i p k x y ≤ M.1 (i + 3) p k * M.1 (i + 3) p k) → mkS (fun k => decide (cFar M i p k x y ≤ M.1 (i + 3) p k * M.1 (i + 3) p k)) (k + 1) = bif b then mkS (fun k => decide (cFar M i p k x y ≤ M.1 (i + 3) p k * M.1 (i + 3) p k)) k ||| b1 k else mkS (fun k => decide (cFar M i p k x y ≤ M.1 (i + 3) p k * M.1 (i + 3) p k)) k := by
        rintro b rfl; rfl
      obtain rfl | rfl := hi
      · obtain rfl : n = 8 := by omega
        refine go ok_Sites_reaching [5] 60 ?_
        refine qLe hc rfl (by omega) (by omega) (fun q => absurd q (by omega)) (fun _ => ?_)
        refine qLe hm rfl (by omega) (by omega) (fun q => absurd q (by omega)) (fun _ => ?_)
        refine xq d ok_Sites_farFrom hf (by omega) ?_
        refine ix k (show _ < 8 by omega) rfl ?_
        refine ix k (show _ < 8 by omega) rfl ?_
        refine And.intro (fun q => ?_) (fun q => ?_)
        · refine nm_r (nI_add _ _) (ih _ ?_)
          rw [fin false (decide_eq_false (Int32.not_le.mpr q)).symm]; rfl
        · refine xq d ok_CS_bit (c_bit E d M k) (by omega) ?_
          refine nm_r (nI_add _ _) (ih _ ?_)
          rw [fin true (decide_eq_true (Int32.not_lt.mp q)).symm]; rfl
      · obtain rfl : n = 4 := by omega
        refine go ok_Sites_reaching [5] 60 ?_
        refine qLe hc rfl (by omega) (by omega) (fun q => absurd q (by omega)) (fun _ => ?_)
        refine qLe hm rfl (by omega) (by omega) (fun q => absurd q (by omega)) (fun _ => ?_)
        refine xq d ok_Sites_farFrom hf (by omega) ?_
        refine ix k (show _ < 4 by omega) rfl ?_
        refine ix k (show _ < 4 by omega) rfl ?_
        refine And.intro (fun q => ?_) (fun q => ?_)
        · refine nm_r (nI_add _ _) (ih _ ?_)
          rw [fin false (decide_eq_false (Int32.not_le.mpr q)).symm]; rfl
        · refine xq d ok_CS_bit (c_bit E d M k) (by omega) ?_
          refine nm_r (nI_add _ _) (ih _ ?_)
          rw [fin true (decide_eq_true (Int32.not_lt.mp q)).symm]; rfl
  obtain rfl | rfl := hi
  · refine Mt.go ok_Sites_reaching [5] 60 rfl ?_
    exact key 0 (Nat.zero_le _) _ rfl
  · refine Mt.go ok_Sites_reaching [5] 60 rfl ?_
    exact key 0 (Nat.zero_le _) _ rfl
theorem c_disturb {p : Nat} (hW : CWp M p) (s c t e : Nat) (hs : s < 8) (ht : t < 8) (hc : c < 100) (he : e < 100) : Mt E (d + 1) m_Plan_disturb [vP 30 p, vI (nI s), vI (nI c), vI (nI t), vI (nI e)] M (RP (vI (bI (dsC M s c t e))) M) := by
  obtain ⟨h1, h2, h3⟩ := hW.2.1 s hs
  refine Mt.go ok_Plan_disturb [45] 60 rfl ?_
  have brush : decide (c = e) = false → (decide (c = e + 1) || decide (e = c + 1)) = true → Wp E (d + 1) m_Plan_disturb 45 [some (vP 30 p), some (vI (nI s)), some (vI (nI c)), some (vI (nI t)), some (vI (nI e))] [] M (RP (vI (bI (dsC M s c t e))) M) := by
    intro q1 q2
    refine go ok_Plan_disturb [] 60 ?_
    refine ix s hs rfl ?_
    have hx := c_has E d M (M.1 47 p s) t (by omega)
    refine xq d ok_CS_has hx (by omega) ?_
    have e1 : bt (M.1 47 p s) t = dsC M s c t e := by
      rw [h2, S32_at (by omega)]
      unfold brS dsC aDist
      rw [q1, q2]; rfl
    rw [e1]
    refine brF (fun c => ?_) (fun c => ?_)
    · exact And.intro (Or.inl rfl) (And.intro (by rw [c]; rfl) rfl)
    · exact And.intro (Or.inr rfl) (And.intro (by rw [c]; rfl) rfl)
  refine cLt (by omega) (by omega) (fun q => absurd q (by omega)) (fun _ => ?_)
  refine cLt (by omega) (by omega) (fun _ => ?_) (fun q => absurd q (by omega))
  refine cNe (by omega) (by omega) (fun q => ?_) (fun q => ?_)
  · have q0 : decide (c = e) = false := decide_eq_false q
    refine qEq rfl (nI_add _ _) (by omega) (by omega) (fun q1 => ?_) (fun q1 => ?_)
    · exact brush q0 (by rw [decide_eq_true q1]; rfl)
    · refine qNe rfl (nI_add _ _) (by omega) (by omega) (fun q2 => ?_) (fun q2 => ?_)
      · refine And.intro (Or.inl rfl) (And.intro ?_ rfl)
        have : dsC M s c t e = false := by
          unfold dsC aDist
          rw [q0, decide_eq_false q1, decide_eq_false q2]
          simp
        rw [this]; rfl
      · exact brush q0 (by rw [decide_eq_true q2, Bool.or_true])
  · refine ix s hs rfl ?_
    have hx := c_has E d M (M.1 46 p s) t (by omega)
    refine xq d ok_CS_has hx (by omega) ?_
    have e1 : bt (M.1 46 p s) t = dsC M s c t e := by
      rw [h1, S32_at (by omega)]
      unfold clS dsC aDist
      rw [decide_eq_true q]; rfl
    rw [e1]
    exact And.intro (bI_or _) (And.intro rfl rfl)
theorem c_listOf {p : Nat} (hW : CWp M p) (hN : CWn M) (s : Nat) (hs : s < sN M) (hs8 : s < 8) : Mt E d m_Now_listOf [vP 4 0, vP 30 p, vI (nI s)] M (RP (vI (S32 (aLst M s))) M) := by
  obtain ⟨h1, h2, h3⟩ := hW.2.1 s hs8
  refine Mt.go ok_Now_listOf [] 60 rfl ?_
  refine cLt (by omega) (by omega) (fun q => absurd q (by omega)) (fun _ => ?_)
  refine cLt (by omega) (by omega) (fun _ => ?_) (fun q => absurd q (by omega))
  refine ix s hs8 rfl ?_
  refine ix s hs8 rfl ?_
  refine And.intro ?_ rfl
  rw [h3, (hN.2.2 s hs).2.2, aLst_set hs]
theorem c_listOf0 {p : Nat} (hW : CWp M p) (s : Nat) (hs : ¬ s < sN M) (hs8 : s < 8) : Mt E d m_Now_listOf [vP 4 0, vP 30 p, vI (nI s)] M (RP (vI (nI 0)) M) := by
  obtain ⟨h1, h2, h3⟩ := hW.2.1 s hs8
  refine Mt.go ok_Now_listOf [] 60 rfl ?_
  refine cLt (by omega) (by omega) (fun q => absurd q (by omega)) (fun _ => ?_)
  refine cLt (by omega) (by omega) (fun _ => ?_) (fun q => absurd q (by omega))
  refine ix s hs8 rfl ?_
  refine ix s hs8 rfl ?_
  refine And.intro ?_ rfl
  have : M.1 49 p s &&& (M.1 7 0 s ^^^ -(nI 1)) = nI 0 := by
    apply b_ext
    intro i hi
    rw [b_and, b_0, h3, S32_at hi]
    unfold opS
    rw [decide_eq_false hs]; rfl
  rw [this]
theorem c_disturbers {p : Nat} (hR : RW M) (hB : RB M) (hW : CWp M p) (hN : CWn M) (s c : Nat) (hs : s < sN M) (hc : c < 100) : Mt E (d + 2) m_Now_disturbers [vP 4 0, vP 30 p, vI (nI s), vI (nI c)] M (RP (vI (S32 (aDsb M s c))) M) := by
  have h8 := hR.2.1.2
  have key : ∀ t, t ≤ 8 → ∀ x, x = mkS (aDsb M s c) t → Wp E (d + 2) m_Now_disturbers 6 [some (vP 4 0), some (vP 30 p), some (vI (nI s)), some (vI (nI c)), some (vI x), some (vI (nI t))] [] M (RP (vI (S32 (aDsb M s c))) M) := by
    refine loopUp 8 ?_ ?_
    · rintro x rfl
      refine go ok_Now_disturbers [6] 60 ?_
      refine cLe (by omega) (by omega) (fun _ => ?_) (fun q => absurd q (by omega))
      refine And.intro ?_ rfl
      rw [mkS_full (by omega) (fun i h => ?_)]
      unfold aDsb at h
      simp only [Bool.and_eq_true, decide_eq_true_eq] at h
      omega
    · rintro t ht ih x rfl
      refine go ok_Now_disturbers [6] 60 ?_
      refine cLe (by omega) (by omega) (fun q => absurd q (by omega)) (fun _ => ?_)
      have hx := c_has E d M (M.1 4 0 3) t (by omega)
      refine xq d ok_CS_has hx (by omega) ?_
      have ea : bt (M.1 4 0 3) t = aOn M t := by rw [hN.1]; rfl
      rw [ea]
      refine brF (fun q => ?_) (fun q => ?_)
      · refine nm_r (nI_add _ _) (ih _ ?_)
        have : aDsb M s c t = false := by unfold aDsb; rw [q]; simp
        rw [mkS, this]; rfl
      · have hts := air_lt hB q
        obtain ⟨o1, o2, o3⟩ := hR.2.2.2 t hts
        refine ix t (show _ < 8 by omega) rfl ?_
        have hx := c_disturb E d M hW s c t (oN M t) (by omega) (by omega) hc (by omega)
        rw [← o1, ← (hN.2.2 t hts).1] at hx
        refine xq (d + 1) ok_Plan_disturb hx (by omega) ?_
        have e2 : dsC M s c t (oN M t) = aDsb M s c t := by
          unfold dsC aDsb
          rw [decide_eq_true hs, q]; simp
        rw [e2]
        refine brF (fun q => ?_) (fun q => ?_)
        · refine nm_r (nI_add _ _) (ih _ ?_)
          rw [mkS, q]; rfl
        · refine xq d ok_CS_bit (c_bit E d M t) (by omega) ?_
          refine nm_r (nI_add _ _) (ih _ ?_)
          rw [mkS, q]; rfl
  refine Mt.go ok_Now_disturbers [6] 60 rfl ?_
  exact key 0 (by omega) _ rfl
theorem c_isFree {p : Nat} (hR : RW M) (hB : RB M) (hW : CWp M p) (hN : CWn M) (s c : Nat) (hs : s < sN M) (hc1 : 1 ≤ c) (hc : c < 31) : Mt E (d + 3) m_Now_isFree [vP 4 0, vP 30 p, vI (nI s), vI (nI c)] M (RP (vI (bI (aMay M s c))) M) := by
  have h8 := hR.2.1.2
  refine Mt.go ok_Now_isFree [] 60 rfl ?_
  refine xq d ok_Now_listOf (c_listOf E d M hW hN s hs (by omega)) (by omega) ?_
  refine xq d ok_CS_channelBit (c_channelBit E d M c hc1) (by omega) ?_
  refine And.intro (fun q => ?_) (fun q => ?_)
  · refine And.intro (Or.inl rfl) (And.intro ?_ rfl)
    have := (and_b1 (show c - 1 < 32 by omega)).mp q
    rw [S32_at (by omega)] at this
    unfold aMay; rw [this]; rfl
  · have ql : aLst M s (c - 1) = true := by
      cases h : aLst M s (c - 1) with
      | true => rfl
      | false => exact absurd ((and_b1 (show c - 1 < 32 by omega)).mpr (by rw [S32_at (by omega)]; exact h)) q
    refine xq (d + 2) ok_Now_disturbers (c_disturbers E d M hR hB hW hN s c hs (by omega)) (by omega) ?_
    refine And.intro (fun z => ?_) (fun z => ?_)
    · refine And.intro (Or.inl rfl) (And.intro ?_ rfl)
      have : noDsb M s c = false := by
        cases hz : noDsb M s c with
        | false => rfl
        | true => exact absurd ((noDsb_iff M hR s c).mpr hz) z
      unfold aMay; rw [this, Bool.and_false]; rfl
    · refine And.intro (Or.inr rfl) (And.intro ?_ rfl)
      unfold aMay; rw [ql, (noDsb_iff M hR s c).mp z]; rfl
theorem c_freeChannels {p : Nat} (hR : RW M) (hB : RB M) (hW : CWp M p) (hN : CWn M) (s : Nat) (hs : s < sN M) : Mt E (d + 4) m_Now_freeChannels [vP 4 0, vP 30 p, vI (nI s)] M (RP (vI (S32 (fun i => decide (i < cN M) && aMay M s (i + 1)))) M) := by
  have h8 := hR.2.1.2
  have hc := hR.1
  have hch : M.1 30 p 10 = nI (cN M) := by rw [hW.1.1, hc.1]
  have key : ∀ k, k ≤ cN M → ∀ x, x = mkS (fun i => aMay M s (i + 1)) k → Wp E (d + 4) m_Now_freeChannels 5 [some (vP 4 0), some (vP 30 p), some (vI (nI s)), some (vI x), some (vI (nI (k + 1)))] [] M (RP (vI (S32 (fun i => decide (i < cN M) && aMay M s (i + 1)))) M) := by
    refine loopUp (cN M) ?_ ?_
    · rintro x rfl
      refine go ok_Now_freeChannels [5] 60 ?_
      refine qLt hch rfl (by omega) (by omega) (fun _ => ?_) (fun q => absurd q (by omega))
      refine And.intro ?_ rfl
      rw [mkS_S32 (by omega)]
    · rintro k hk ih x rfl
      refine go ok_Now_freeChannels [5] 60 ?_
      refine qLt hch rfl (by omega) (by omega) (fun q => absurd q (by omega)) (fun _ => ?_)
      refine xq (d + 3) ok_Now_isFree (c_isFree E d M hR hB hW hN s (k + 1) hs (by omega) (by omega)) (by omega) ?_
      refine brF (fun q => ?_) (fun q => ?_)
      · refine nm_r (nI_add _ _) (ih _ ?_)
        rw [mkS, q]; rfl
      · refine xq d ok_CS_channelBit (c_channelBit E d M (k + 1) (by omega)) (by omega) ?_
        refine nm_r (nI_add _ _) (ih _ ?_)
        rw [mkS, q]; rfl
  refine Mt.go ok_Now_freeChannels [5] 60 rfl ?_
  exact key 0 (by omega) _ rfl
theorem c_wrongOnes {p : Nat} (hR : RW M) (hB : RB M) (hW : CWp M p) (hN : CWn M) : Mt E (d + 4) m_Now_wrongOnes [vP 4 0, vP 30 p] M (RP (vI (S32 (aWrong M))) M) := by
  have h8 := hR.2.1.2
  have key : ∀ t, t ≤ 8 → ∀ x, x = mkS (aWrong M) t → Wp E (d + 4) m_Now_wrongOnes 4 [some (vP 4 0), some (vP 30 p), some (vI x), some (vI (nI t))] [] M (RP (vI (S32 (aWrong M))) M) := by
    refine loopUp 8 ?_ ?_
    · rintro x rfl
      refine go ok_Now_wrongOnes [4] 60 ?_
      refine cLe (by omega) (by omega) (fun _ => ?_) (fun q => absurd q (by omega))
      refine And.intro ?_ rfl
      rw [mkS_full (by omega) (fun i h => ?_)]
      unfold aWrong at h
      simp only [Bool.and_eq_true, decide_eq_true_eq] at h
      omega
    · rintro t ht ih x rfl
      refine go ok_Now_wrongOnes [4] 60 ?_
      refine cLe (by omega) (by omega) (fun q => absurd q (by omega)) (fun _ => ?_)
      have hx := c_has E d M (M.1 4 0 3) t (by omega)
      refine xq d ok_CS_has hx (by omega) ?_
      have ea : bt (M.1 4 0 3) t = aOn M t := by rw [hN.1]; rfl
      rw [ea]
      refine brF (fun q => ?_) (fun q => ?_)
      · refine nm_r (nI_add _ _) (ih _ ?_)
        have : aWrong M t = false := by unfold aWrong; rw [q]; simp
        rw [mkS, this]; rfl
      · have hts := air_lt hB q
        obtain ⟨o1, o2, o3⟩ := hR.2.2.2 t hts
        refine ix t (show _ < 8 by omega) rfl ?_
        have hx := c_isFree E d M hR hB hW hN t (oN M t) hts o2 (by omega)
        rw [← o1, ← (hN.2.2 t hts).1] at hx
        refine xq (d + 3) ok_Now_isFree hx (by omega) ?_
        have e2 : aWrong M t = !aMay M t (oN M t) := by
          unfold aWrong
          rw [decide_eq_true hts, q]; rfl
        refine brN (fun q => ?_) (fun q => ?_)
        · refine nm_r (nI_add _ _) (ih _ ?_)
          rw [mkS, e2, q]; rfl
        · refine xq d ok_CS_bit (c_bit E d M t) (by omega) ?_
          refine nm_r (nI_add _ _) (ih _ ?_)
          rw [mkS, e2, q]; rfl
  refine Mt.go ok_Now_wrongOnes [4] 60 rfl ?_
  exact key 0 (by omega) _ rfl
theorem aWr_cg {w : Nat → Int32} {set : Int32} {n m : Nat} (hnm : n ≤ m) (h : ∀ t, n ≤ t → bt set t = false) : aWr w set m = aWr w set n := by
  induction m with
  | zero => rw [show n = 0 by omega]
  | succ m ih =>
    rcases Nat.lt_or_ge n (m + 1) with e | e
    · rw [aWr, ih (by omega), h m (by omega)]
      show aWr w set n + nI 0 = _
      exact Int32.add_zero _
    · rw [show n = m + 1 by omega]
theorem aWr_w {w w' : Nat → Int32} {set : Int32} : ∀ {n : Nat}, (∀ t, t < n → w (8 + t) = w' (8 + t)) → aWr w set n = aWr w' set n
  | 0, _ => rfl
  | n + 1, h => by rw [aWr, aWr, aWr_w (fun t ht => h t (by omega)), h n (by omega)]
/-- the worth of a set of stations -/
theorem c_worthOf (hR : RW M) (hN : CWn M) (set : Int32) (hs : ∀ t, sN M ≤ t → t < 8 → bt set t = false) : Mt E (d + 1) m_Now_worthOf [vP 4 0, vI set] M (RP (vI (aWr (M.1 65 0) set (sN M))) M) := by
  have h8 := hR.2.1.2
  have key : ∀ t, t ≤ 8 → ∀ x, x = aWr (M.1 65 0) set (min t (sN M)) → Wp E (d + 1) m_Now_worthOf 4 [some (vP 4 0), some (vI set), some (vI x), some (vI (nI t))] [] M (RP (vI (aWr (M.1 65 0) set (sN M))) M) := by
    refine loopUp 8 ?_ ?_
    · rintro x rfl
      refine go ok_Now_worthOf [4] 60 ?_
      refine cLe (by omega) (by omega) (fun _ => ?_) (fun q => absurd q (by omega))
      refine And.intro ?_ rfl
      rw [Nat.min_eq_right h8]
    · rintro t ht ih x rfl
      refine go ok_Now_worthOf [4] 60 ?_
      refine cLe (by omega) (by omega) (fun q => absurd q (by omega)) (fun _ => ?_)
      refine xq d ok_CS_has (c_has E d M set t (by omega)) (by omega) ?_
      refine brF (fun q => ?_) (fun q => ?_)
      · refine nm_r (nI_add _ _) (ih _ ?_)
        rcases Nat.lt_or_ge t (sN M) with e | e
        · rw [Nat.min_eq_left (by omega), Nat.min_eq_left (by omega), aWr, q]
          exact (Int32.add_zero _).symm
        · rw [Nat.min_eq_right (by omega), Nat.min_eq_right (by omega)]
      · have e : t < sN M := by
          rcases Nat.lt_or_ge t (sN M) with e | e
          · exact e
          · rw [hs t e ht] at q; cases q
        refine ix t (show _ < 8 by omega) rfl ?_
        refine nm_r (nI_add _ _) (ih _ ?_)
        rw [Nat.min_eq_left (by omega), Nat.min_eq_left (by omega), aWr, q, (hN.2.2 t e).2.1]; rfl
  refine Mt.go ok_Now_worthOf [4] 60 rfl ?_
  exact key 0 (by omega) _ (by rw [Nat.zero_min]; rfl)
theorem c_greatestChannel (hR : RW M) (hB : RB M) (hN : CWn M) : Mt E (d + 1) m_Now_greatestChannel [vP 4 0] M (RP (vI (aTop (M.1 65 0) (sN M))) M) := by
  have h8 := hR.2.1.2
  have key : ∀ t, t ≤ 8 → ∀ x, x = aTop (M.1 65 0) (min t (sN M)) → Wp E (d + 1) m_Now_greatestChannel 4 [some (vP 4 0), some (vI x), some (vI (nI t))] [] M (RP (vI (aTop (M.1 65 0) (sN M))) M) := by
    refine loopUp 8 ?_ ?_
    · rintro x rfl
      refine go ok_Now_greatestChannel [4] 60 ?_
      refine cLe (by omega) (by omega) (fun _ => ?_) (fun q => absurd q (by omega))
      refine And.intro ?_ rfl
      rw [Nat.min_eq_right h8]
    · rintro t ht ih x rfl
      refine go ok_Now_greatestChannel [4] 60 ?_
      refine cLe (by omega) (by omega) (fun q => absurd q (by omega)) (fun _ => ?_)
      have hx := c_has E d M (M.1 4 0 3) t (by omega)
      refine xq d ok_CS_has hx (by omega) ?_
      have ea : bt (M.1 4 0 3) t = bt (M.1 65 0 24) t := by rw [hN.1]
      rw [ea]
      refine brF (fun q => ?_) (fun q => ?_)
      · refine nm_r (nI_add _ _) (ih _ ?_)
        rcases Nat.lt_or_ge t (sN M) with e | e
        · rw [Nat.min_eq_left (by omega), Nat.min_eq_left (by omega), aTop, q]; rfl
        · rw [Nat.min_eq_right (by omega), Nat.min_eq_right (by omega)]
      · have e : t < sN M := air_lt hB q
        refine ix t (show _ < 8 by omega) rfl ?_
        refine nm_r (nI_add _ _) (ih _ ?_)
        rw [Nat.min_eq_left (by omega), Nat.min_eq_left (by omega), aTop, q, (hN.2.2 t e).1, Bool.true_and]
        by_cases c : aTop (M.1 65 0) t < M.1 65 0 t
        · rw [if_pos c, decide_eq_true c]; rfl
        · rw [if_neg c, decide_eq_false c]; rfl
  refine Mt.go ok_Now_greatestChannel [4] 60 rfl ?_
  exact key 0 (by omega) _ (by rw [Nat.zero_min]; rfl)
end C1
