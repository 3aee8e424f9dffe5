/-! the step as a function, and its soundness -/
def cst (a b : Nat) : Int32 := cond (Nat.beq b 0) (nI a) (-(nI a))
def auxOK (m : MC) (pc : Nat) (ins : Instr) (len a b c : Nat) : Bool := match ins with
  | .iconst n => Nat.beq len 1 && decide (Int32.ofInt n = cst a b)
  | .bipush n => Nat.beq len 2 && decide ((Int8.ofInt n).toInt32 = cst a b)
  | .sipush n => Nat.beq len 3 && decide ((Int16.ofInt n).toInt32 = cst a b)
  | .lconst _ => Nat.beq len 1
  | .iload_n _ => Nat.beq len 1
  | .iload _ => Nat.beq len 2
  | .lload_n _ => Nat.beq len 1
  | .lload _ => Nat.beq len 2
  | .aload_n _ => Nat.beq len 1
  | .aload _ => Nat.beq len 2
  | .istore_n k => Nat.beq len 1 && Nat.blt k.val (mL m)
  | .istore k => Nat.beq len 2 && Nat.blt k (mL m)
  | .lstore_n k => Nat.beq len 1 && Nat.blt (k.val + 1) (mL m)
  | .lstore k => Nat.beq len 2 && Nat.blt (k + 1) (mL m)
  | .astore_n k => Nat.beq len 1 && Nat.blt k.val (mL m)
  | .astore k => Nat.beq len 2 && Nat.blt k (mL m)
  | .iinc k n => Nat.beq len 3 && (Nat.blt k (mL m) && decide (Int32.ofInt n = cst a b))
  | .if_icmp _ off => Nat.beq len 3 && decide (0 ≤ (pc : Int) + off)
  | .ifCond _ off => Nat.beq len 3 && decide (0 ≤ (pc : Int) + off)
  | .goto off => Nat.beq len 3 && decide (0 ≤ (pc : Int) + off)
  | .tableswitch dflt lo hi offs => decide (lo = (a : Int)) && (decide (hi = (b : Int)) && (Nat.blt b 1000 && (decide (offs.toList.length + a = b + 1) && (decide (0 ≤ (pc : Int) + dflt) && offs.toList.all (fun o => decide (0 ≤ (pc : Int) + o))))))
  | .lookupswitch dflt ps => (ps.toList.zip (ps.toList.drop 1)).all (fun (a, next) => a.1 < next.1) && (decide (0 ≤ (pc : Int) + dflt) && ps.toList.all (fun q => decide (0 ≤ (pc : Int) + q.2) && (decide (0 ≤ q.1) && decide (q.1 < 1000))))
  | .getfield ix => Nat.beq len 3 && flk.any (fun z => decide (z.1 = (mO m, ix, a, b, c)))
  | .putfield ix => Nat.beq len 3 && (flk.any (fun z => decide (z.1 = (mO m, ix, a, b, c))) && !(clsT a b).2.2.2)
  | .invokevirtual ix => Nat.beq len 3 && (mlk.any (fun z => decide (z.1 = (mO m, ix, a, b))) && (Nat.beq c (mNa (mth a)) && Nat.beq (mSt (mth a)) 0))
  | .invokestatic ix => Nat.beq len 3 && (match b with
    | 2 => xlk.any (fun z => decide (z.1 = (mO m, ix, 2)))
    | 3 => xlk.any (fun z => decide (z.1 = (mO m, ix, 3)))
    | b => mlk.any (fun z => decide (z.1 = (mO m, ix, a, b))) && (Nat.beq c (mNa (mth a)) && Nat.beq (mSt (mth a)) 1))
  | .ldc ix => Nat.beq len 2 && (slk.any (fun z => Nat.beq z.1 (mO m) && (Nat.beq z.2.1 ix && Nat.beq z.2.2.1 b)) && Nat.blt 0 (rn b))
  | .ldc_w ix => Nat.beq len 3 && ilk.any (fun z => decide (z.1 = (mO m, ix, b)) && decide (lw_tbl[z.2]? = some (Cond.constant (cnm (mO m)) ix (nI b))))
  | .ldc2_w ix => Nat.beq len 3 && clk.any (fun z => decide (z.1 = (mO m, ix, b)) && decide (lw_tbl[z.2]? = some (Cond.constantLong (cnm (mO m)) ix (lN b))))
  | _ => Nat.beq len 1
def okM (m : MC) : Prop := codeW m ∈ TW ∧ plainName (mN m).cls = true ∧ cnm (mO m) = (mN m).cls ∧ ∀ pc ins len a b c, pc < mLen m → mCf m pc = some (ins, len, a, b, c) → decode (mB m) pc = .ok (ins, len) ∧ auxOK m pc ins len a b c = true
def chkD (m : MC) : Bool := (List.range (mLen m)).all fun pc => match mCf m pc with
  | none => true
  | some (ins, len, a, b, c) => decide (decode (mB m) pc = .ok (ins, len)) && auxOK m pc ins len a b c
theorem okM_of {m : MC} (i : Nat) (h1 : lw_tbl[i]? = some (codeW m)) (h2 : (plainName (mN m).cls && decide (cnm (mO m) = (mN m).cls)) = true) (h3 : chkD m = true) : okM m := by
  simp only [Bool.and_eq_true] at h2
  refine ⟨tw_mem i h1 rfl, h2.1, of_decide_eq_true h2.2, fun pc ins len a b c hl hc => ?_⟩
  have h := List.all_eq_true.mp h3 pc (List.mem_range.mpr hl)
  simp only [hc, Bool.and_eq_true] at h
  exact ⟨of_decide_eq_true h.1, h.2⟩
abbrev KT : Type := Nat → List (Option AV) → List AV → Me → Prop
def x_iadd (k : KT) (pc : Nat) (ls : List (Option AV)) (st : List AV) (M : Me) : Prop := match st with
  | .inl y :: .inl x :: st => k (pc + 1) ls (vI (x + y) :: st) M
  | _ => False
def x_isub (k : KT) (pc : Nat) (ls : List (Option AV)) (st : List AV) (M : Me) : Prop := match st with
  | .inl y :: .inl x :: st => k (pc + 1) ls (vI (x - y) :: st) M
  | _ => False
def x_imul (k : KT) (pc : Nat) (ls : List (Option AV)) (st : List AV) (M : Me) : Prop := match st with
  | .inl y :: .inl x :: st => k (pc + 1) ls (vI (x * y) :: st) M
  | _ => False
def x_iand (k : KT) (pc : Nat) (ls : List (Option AV)) (st : List AV) (M : Me) : Prop := match st with
  | .inl y :: .inl x :: st => k (pc + 1) ls (vI (x &&& y) :: st) M
  | _ => False
def x_ior (k : KT) (pc : Nat) (ls : List (Option AV)) (st : List AV) (M : Me) : Prop := match st with
  | .inl y :: .inl x :: st => k (pc + 1) ls (vI (x ||| y) :: st) M
  | _ => False
def x_ixor (k : KT) (pc : Nat) (ls : List (Option AV)) (st : List AV) (M : Me) : Prop := match st with
  | .inl y :: .inl x :: st => k (pc + 1) ls (vI (x ^^^ y) :: st) M
  | _ => False
def x_ishl (k : KT) (pc : Nat) (ls : List (Option AV)) (st : List AV) (M : Me) : Prop := match st with
  | .inl y :: .inl x :: st => k (pc + 1) ls (vI (x <<< (y &&& 31)) :: st) M
  | _ => False
def x_ishr (k : KT) (pc : Nat) (ls : List (Option AV)) (st : List AV) (M : Me) : Prop := match st with
  | .inl y :: .inl x :: st => k (pc + 1) ls (vI (x >>> (y &&& 31)) :: st) M
  | _ => False
def x_iushr (k : KT) (pc : Nat) (ls : List (Option AV)) (st : List AV) (M : Me) : Prop := match st with
  | .inl y :: .inl x :: st => k (pc + 1) ls (vI ((x.toUInt32 >>> (y.toUInt32 &&& Int32.toUInt32 31)).toInt32) :: st) M
  | _ => False
def x_ladd (k : KT) (pc : Nat) (ls : List (Option AV)) (st : List AV) (M : Me) : Prop := match st with
  | .inr (.inl y) :: .inr (.inl x) :: st => k (pc + 1) ls (vJ (x + y) :: st) M
  | _ => False
def x_lsub (k : KT) (pc : Nat) (ls : List (Option AV)) (st : List AV) (M : Me) : Prop := match st with
  | .inr (.inl y) :: .inr (.inl x) :: st => k (pc + 1) ls (vJ (x - y) :: st) M
  | _ => False
def x_lmul (k : KT) (pc : Nat) (ls : List (Option AV)) (st : List AV) (M : Me) : Prop := match st with
  | .inr (.inl y) :: .inr (.inl x) :: st => k (pc + 1) ls (vJ (x * y) :: st) M
  | _ => False
def x_idiv (k : KT) (pc : Nat) (ls : List (Option AV)) (st : List AV) (M : Me) : Prop := match st with
  | .inl y :: .inl x :: st => ¬ y = 0 ∧ k (pc + 1) ls (vI (x / y) :: st) M
  | _ => False
def x_irem (k : KT) (pc : Nat) (ls : List (Option AV)) (st : List AV) (M : Me) : Prop := match st with
  | .inl y :: .inl x :: st => ¬ y = 0 ∧ k (pc + 1) ls (vI (x - x / y * y) :: st) M
  | _ => False
def x_ldiv (k : KT) (pc : Nat) (ls : List (Option AV)) (st : List AV) (M : Me) : Prop := match st with
  | .inr (.inl y) :: .inr (.inl x) :: st => ¬ y = 0 ∧ k (pc + 1) ls (vJ (x / y) :: st) M
  | _ => False
def x_lrem (k : KT) (pc : Nat) (ls : List (Option AV)) (st : List AV) (M : Me) : Prop := match st with
  | .inr (.inl y) :: .inr (.inl x) :: st => ¬ y = 0 ∧ k (pc + 1) ls (vJ (x - x / y * y) :: st) M
  | _ => False
def xCst (n : Nat) (k : KT) (pc : Nat) (ls : List (Option AV)) (st : List AV) (M : Me) (a b : Nat) : Prop := match b with
  | 0 => k (pc + n) ls (vI (nI a) :: st) M
  | _ => k (pc + n) ls (vI (-(nI a)) :: st) M
def xLI (n i : Nat) (k : KT) (pc : Nat) (ls : List (Option AV)) (st : List AV) (M : Me) : Prop := match lg ls i with
  | some (.inl x) => k (pc + n) ls (vI x :: st) M
  | _ => False
def xLJ (n i : Nat) (k : KT) (pc : Nat) (ls : List (Option AV)) (st : List AV) (M : Me) : Prop := match lg ls i with
  | some (.inr (.inl x)) => k (pc + n) ls (vJ x :: st) M
  | _ => False
def xLA (n i : Nat) (k : KT) (pc : Nat) (ls : List (Option AV)) (st : List AV) (M : Me) : Prop := match lg ls i with
  | some (.inr (.inr (i, r))) => k (pc + n) ls (vP i r :: st) M
  | _ => False
def xSI (n i : Nat) (k : KT) (pc : Nat) (ls : List (Option AV)) (st : List AV) (M : Me) : Prop := match st with
  | .inl x :: st => k (pc + n) (sto ls i (vI x)) st M
  | _ => False
def xSJ (n i : Nat) (k : KT) (pc : Nat) (ls : List (Option AV)) (st : List AV) (M : Me) : Prop := match st with
  | .inr (.inl x) :: st => k (pc + n) (sto2 ls i (vJ x)) st M
  | _ => False
def xSA (n i : Nat) (k : KT) (pc : Nat) (ls : List (Option AV)) (st : List AV) (M : Me) : Prop := match st with
  | .inr (.inr (j, r)) :: st => k (pc + n) (sto ls i (vP j r)) st M
  | _ => False
def xInc (i a b : Nat) (k : KT) (pc : Nat) (ls : List (Option AV)) (st : List AV) (M : Me) : Prop := match lg ls i, b with
  | some (.inl x), 0 => ∀ y, y = x + nI a → k (pc + 3) (sto ls i (vI y)) st M
  | some (.inl x), _ => ∀ y, y = x - nI a → k (pc + 3) (sto ls i (vI y)) st M
  | _, _ => False
def xGet (a b : Nat) (k : KT) (pc : Nat) (ls : List (Option AV)) (st : List AV) (M : Me) : Prop := match st with
  | .inr (.inr (i, r)) :: st => match Nat.beq (ly i).1 1 && Nat.beq (ly i).2 a with
    | true => match fkd a b with
      | 0 => k (pc + 3) ls (vI (M.1 i r b) :: st) M
      | 1 => k (pc + 3) ls (vI (M.1 i r b) :: st) M
      | 2 => k (pc + 3) ls (vJ (M.2.1 i r b) :: st) M
      | 3 => tgtK i b (fun p => k (pc + 3) ls (vP p 0 :: st) M)
      | 4 => tgtK i b (fun p => k (pc + 3) ls (vP p r :: st) M)
      | 5 => tgtK i b (fun p => k (pc + 3) ls (vP p (M.2.2 i r b) :: st) M)
      | _ => False
    | false => False
  | _ => False
def xPut (a b : Nat) (k : KT) (pc : Nat) (ls : List (Option AV)) (st : List AV) (M : Me) : Prop := match st with
  | v :: .inr (.inr (i, r)) :: st => match Nat.beq (ly i).1 1 && Nat.beq (ly i).2 a with
    | true => match fkd a b, v with
      | 0, .inl x => k (pc + 3) ls st (sI M i r b x)
      | 1, .inl x => (x = nI 0 ∨ x = nI 1) ∧ k (pc + 3) ls st (sI M i r b x)
      | 2, .inr (.inl x) => k (pc + 3) ls st (sJ M i r b x)
      | 5, .inr (.inr (z1, z2)) => match Nat.beq z1 (tgt i b) with
        | true => k (pc + 3) ls st (sG M i r b z2)
        | false => False
      | _, _ => False
    | false => False
  | _ => False
def xAld (k : KT) (pc : Nat) (ls : List (Option AV)) (st : List AV) (M : Me) : Prop := match st with
  | .inl j :: .inr (.inr (i, r)) :: st => match Nat.beq (ly i).1 2 with
    | true => ∃ t : Nat, t < (ly i).2 ∧ j = nI t ∧ k (pc + 1) ls (vI (M.1 i r t) :: st) M
    | false => False
  | _ => False
def xBld (k : KT) (pc : Nat) (ls : List (Option AV)) (st : List AV) (M : Me) : Prop := match st with
  | .inl j :: .inr (.inr (i, r)) :: st => match Nat.beq (ly i).1 3 || Nat.beq (ly i).1 4 with
    | true => ∃ t : Nat, t < (ly i).2 ∧ j = nI t ∧ k (pc + 1) ls (vI (M.1 i r t) :: st) M
    | false => False
  | _ => False
def xJld (k : KT) (pc : Nat) (ls : List (Option AV)) (st : List AV) (M : Me) : Prop := match st with
  | .inl j :: .inr (.inr (i, r)) :: st => match Nat.beq (ly i).1 5 with
    | true => ∃ t : Nat, t < (ly i).2 ∧ j = nI t ∧ k (pc + 1) ls (vJ (M.2.1 i r t) :: st) M
    | false => False
  | _ => False
def xRld (k : KT) (pc : Nat) (ls : List (Option AV)) (st : List AV) (M : Me) : Prop := match st with
  | .inl j :: .inr (.inr (i, r)) :: st => match Nat.beq (ly i).1 6 with
    | true => ∃ t : Nat, t < (ly i).2 ∧ j = nI t ∧ tgtK i 0 (fun p => match Nat.beq (rn i) 1 with
      | true => k (pc + 1) ls (vP p t :: st) M
      | false => k (pc + 1) ls (vP p (t + r * (ly i).2) :: st) M)
    | false => False
  | _ => False
def xAst (k : KT) (pc : Nat) (ls : List (Option AV)) (st : List AV) (M : Me) : Prop := match st with
  | .inl x :: .inl j :: .inr (.inr (i, r)) :: st => match Nat.beq (ly i).1 2 with
    | true => ∃ t : Nat, t < (ly i).2 ∧ j = nI t ∧ k (pc + 1) ls st (sI M i r t x)
    | false => False
  | _ => False
def xBst (k : KT) (pc : Nat) (ls : List (Option AV)) (st : List AV) (M : Me) : Prop := match st with
  | .inl x :: .inl j :: .inr (.inr (i, r)) :: st => match Nat.beq (ly i).1 3 with
    | true => ∃ t : Nat, t < (ly i).2 ∧ j = nI t ∧ k (pc + 1) ls st (sI M i r t x.toInt8.toInt32)
    | false => match Nat.beq (ly i).1 4 with
      | true => ∃ t : Nat, t < (ly i).2 ∧ j = nI t ∧ (x = nI 0 ∨ x = nI 1) ∧ k (pc + 1) ls st (sI M i r t x)
      | false => False
  | _ => False
def xJst (k : KT) (pc : Nat) (ls : List (Option AV)) (st : List AV) (M : Me) : Prop := match st with
  | .inr (.inl x) :: .inl j :: .inr (.inr (i, r)) :: st => match Nat.beq (ly i).1 5 with
    | true => ∃ t : Nat, t < (ly i).2 ∧ j = nI t ∧ k (pc + 1) ls st (sJ M i r t x)
    | false => False
  | _ => False
def xLen (k : KT) (pc : Nat) (ls : List (Option AV)) (st : List AV) (M : Me) : Prop := match st with
  | .inr (.inr (i, _)) :: st => match Nat.beq (ly i).1 2 with
    | true => k (pc + 1) ls (vI (nI (ly i).2) :: st) M
    | false => False
  | _ => False
def xIf (cd : Jvm.ClassFile.Cond) (off : Int) (k : KT) (pc : Nat) (ls : List (Option AV)) (st : List AV) (M : Me) : Prop := match st with
  | .inl x :: st => xIc cd x (nI 0) (k (jt pc off) ls st M) (k (pc + 3) ls st M)
  | _ => False
def xIf2 (cd : Jvm.ClassFile.Cond) (off : Int) (k : KT) (pc : Nat) (ls : List (Option AV)) (st : List AV) (M : Me) : Prop := match st with
  | .inl y :: .inl x :: st => xIc cd x y (k (jt pc off) ls st M) (k (pc + 3) ls st M)
  | _ => False
def isJ : AV → Bool
  | .inr (.inl _) => true
  | _ => false
def xDup (k : KT) (pc : Nat) (ls : List (Option AV)) (st : List AV) (M : Me) : Prop := match st with
  | v :: st => match isJ v with
    | true => False
    | false => k (pc + 1) ls (v :: v :: st) M
  | _ => False
def xDup2 (k : KT) (pc : Nat) (ls : List (Option AV)) (st : List AV) (M : Me) : Prop := match st with
  | v :: u :: st => match isJ v || isJ u with
    | true => False
    | false => k (pc + 1) ls (v :: u :: v :: u :: st) M
  | _ => False
def xSw (dflt : Int) (offs : Array Int) (a b : Nat) (k : KT) (pc : Nat) (ls : List (Option AV)) (st : List AV) (M : Me) : Prop := match st with
  | .inl x :: st => ((x < nI a ∨ nI b < x) → k (jt pc dflt) ls st M) ∧ xTab x (fun off => k (jt pc off) ls st M) a offs.toList
  | _ => False
def xLk (dflt : Int) (ps : Array (Int × Int)) (k : KT) (pc : Nat) (ls : List (Option AV)) (st : List AV) (M : Me) : Prop := match st with
  | .inl x :: st => xLook x (fun off => k (jt pc off) ls st M) dflt ps.toList
  | _ => False
def xCallV (E : EV) (d a n : Nat) (k : KT) (pc : Nat) (ls : List (Option AV)) (st : List AV) (M : Me) : Prop := match (st.take n).reverse with
  | v :: as => match rcvOK (mth a) v && (Nat.beq (as.length + 1) n && Nat.ble (cats (st.drop n)) 8) with
    | true => codeW (mth a) ∈ TW ∧ CallK E d (mth a) (v :: as) M (fun r M' => k (pc + 3) ls (r.toList ++ st.drop n) M')
    | false => False
  | [] => False
def xCallS (E : EV) (d a n : Nat) (k : KT) (pc : Nat) (ls : List (Option AV)) (st : List AV) (M : Me) : Prop := match Nat.ble n st.length && Nat.ble (cats (st.drop n)) 8 with
  | true => codeW (mth a) ∈ TW ∧ CallK E d (mth a) ((st.take n).reverse) M (fun r M' => k (pc + 3) ls (r.toList ++ st.drop n) M')
  | false => False
def xMax (d : Nat) (k : KT) (pc : Nat) (ls : List (Option AV)) (st : List AV) (M : Me) : Prop := match st with
  | .inl y :: .inl x :: st => match Nat.blt 0 d && Nat.ble (cats st) 8 with
    | true => k (pc + 3) ls (vI (if x < y then y else x) :: st) M
    | false => False
  | _ => False
def xMin (d : Nat) (k : KT) (pc : Nat) (ls : List (Option AV)) (st : List AV) (M : Me) : Prop := match st with
  | .inl y :: .inl x :: st => match Nat.blt 0 d && Nat.ble (cats st) 8 with
    | true => k (pc + 3) ls (vI (if y < x then y else x) :: st) M
    | false => False
  | _ => False
def xRet (m : MC) (Q : Option AV → Me → Prop) (st : List AV) (M : Me) : Prop := match st with
  | [.inl x] => match mR m with
    | some .int => Q (some (vI x)) M
    | some .boolean => (x = nI 0 ∨ x = nI 1) ∧ Q (some (vI x)) M
    | _ => False
  | _ => False
def xRetJ (m : MC) (Q : Option AV → Me → Prop) (st : List AV) (M : Me) : Prop := match st with
  | [.inr (.inl x)] => match mR m with
    | some .long => Q (some (vJ x)) M
    | _ => False
  | _ => False
def xRetV (m : MC) (Q : Option AV → Me → Prop) (st : List AV) (M : Me) : Prop := match st with
  | [] => match mR m with
    | none => Q none M
    | _ => False
  | _ => False
def stI (E : EV) (d : Nat) (m : MC) (Q : Option AV → Me → Prop) (k : KT) (pc : Nat) (ls : List (Option AV)) (st : List AV) (M : Me) (ins : Instr) (a b c : Nat) : Prop := match ins with
  | .iconst _ => xCst 1 k pc ls st M a b
  | .bipush _ => xCst 2 k pc ls st M a b
  | .sipush _ => xCst 3 k pc ls st M a b
  | .lconst n => k (pc + 1) ls (vJ (lN n.val) :: st) M
  | .iload_n i => xLI 1 i.val k pc ls st M
  | .iload i => xLI 2 i k pc ls st M
  | .lload_n i => xLJ 1 i.val k pc ls st M
  | .lload i => xLJ 2 i k pc ls st M
  | .aload_n i => xLA 1 i.val k pc ls st M
  | .aload i => xLA 2 i k pc ls st M
  | .istore_n i => xSI 1 i.val k pc ls st M
  | .istore i => xSI 2 i k pc ls st M
  | .lstore_n i => xSJ 1 i.val k pc ls st M
  | .lstore i => xSJ 2 i k pc ls st M
  | .astore_n i => xSA 1 i.val k pc ls st M
  | .astore i => xSA 2 i k pc ls st M
  | .iinc i _ => xInc i a b k pc ls st M
  | .iadd => x_iadd k pc ls st M
  | .isub => x_isub k pc ls st M
  | .imul => x_imul k pc ls st M
  | .iand => x_iand k pc ls st M
  | .ior => x_ior k pc ls st M
  | .ixor => x_ixor k pc ls st M
  | .ishl => x_ishl k pc ls st M
  | .ishr => x_ishr k pc ls st M
  | .iushr => x_iushr k pc ls st M
  | .idiv => x_idiv k pc ls st M
  | .irem => x_irem k pc ls st M
  | .ladd => x_ladd k pc ls st M
  | .lsub => x_lsub k pc ls st M
  | .lmul => x_lmul k pc ls st M
  | .ldiv => x_ldiv k pc ls st M
  | .lrem => x_lrem k pc ls st M
  | .lcmp => match st with
    | .inr (.inl y) :: .inr (.inl x) :: st => k (pc + 1) ls (vI (lg_cmp x y) :: st) M
    | _ => False
  | .i2l => match st with
    | .inl x :: st => k (pc + 1) ls (vJ x.toInt64 :: st) M
    | _ => False
  | .l2i => match st with
    | .inr (.inl x) :: st => k (pc + 1) ls (vI x.toInt32 :: st) M
    | _ => False
  | .i2b => match st with
    | .inl x :: st => k (pc + 1) ls (vI x.toInt8.toInt32 :: st) M
    | _ => False
  | .goto off => k (jt pc off) ls st M
  | .if_icmp cd off => xIf2 cd off k pc ls st M
  | .ifCond cd off => xIf cd off k pc ls st M
  | .dup => xDup k pc ls st M
  | .dup2 => xDup2 k pc ls st M
  | .getfield _ => xGet a b k pc ls st M
  | .putfield _ => xPut a b k pc ls st M
  | .iaload => xAld k pc ls st M
  | .baload => xBld k pc ls st M
  | .laload => xJld k pc ls st M
  | .aaload => xRld k pc ls st M
  | .iastore => xAst k pc ls st M
  | .bastore => xBst k pc ls st M
  | .lastore => xJst k pc ls st M
  | .arraylength => xLen k pc ls st M
  | .tableswitch dflt _ _ offs => xSw dflt offs a b k pc ls st M
  | .lookupswitch dflt ps => xLk dflt ps k pc ls st M
  | .ldc _ => k (pc + 2) ls (vP b 0 :: st) M
  | .ldc_w _ => k (pc + 3) ls (vI (nI b) :: st) M
  | .ldc2_w _ => k (pc + 3) ls (vJ (lN b) :: st) M
  | .invokevirtual _ => xCallV E d a (c + 1) k pc ls st M
  | .invokestatic _ => match b with
    | 2 => xMax d k pc ls st M
    | 3 => xMin d k pc ls st M
    | _ => xCallS E d a c k pc ls st M
  | .ireturn => xRet m Q st M
  | .lreturn => xRetJ m Q st M
  | .return_ => xRetV m Q st M
  | _ => False
def st1 (E : EV) (d : Nat) (m : MC) (Q : Option AV → Me → Prop) (k : KT) (pc : Nat) (ls : List (Option AV)) (st : List AV) (M : Me) : Prop := match cond (Nat.blt pc (mLen m)) (mCf m pc) none with
  | none => False
  | some (ins, _, a, b, c) => stI E d m Q k pc ls st M ins a b c
def memN : List Nat → Nat → Bool
  | [], _ => false
  | a :: l, p => cond (Nat.beq a p) true (memN l p)
def wpx (E : EV) (d : Nat) (m : MC) (Q : Option AV → Me → Prop) (stops : List Nat) : Nat → KT
  | 0 => fun pc ls st M => Wp E d m pc ls st M Q
  | n + 1 => fun pc ls st M => st1 E d m Q (fun pc ls st M => match memN stops pc with
    | true => Wp E d m pc ls st M Q
    | false => wpx E d m Q stops n pc ls st M) pc ls st M
