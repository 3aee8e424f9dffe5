/-! one instruction of the small machine, on the real one -/
theorem okSt_cons {v : AV} {st : List AV} (hv : okV v) (h : okSt st) : okSt (v :: st) := fun u hu => (List.mem_cons.mp hu).elim (fun e => e ▸ hv) (h u)
theorem okSt_tl {v : AV} {st : List AV} (h : okSt (v :: st)) : okSt st := fun u hu => h u (List.mem_cons_of_mem _ hu)
theorem okSt_hd {v : AV} {st : List AV} (h : okSt (v :: st)) : okV v := h v List.mem_cons_self
def jt (pc : Nat) (off : Int) : Nat := ((pc : Int) + off).toNat
theorem jt_eq {pc : Nat} {off : Int} (h : 0 ≤ (pc : Int) + off) : (pc : Int) + off = (jt pc off : Int) := (Int.toNat_of_nonneg h).symm
section SM
variable {E : EV} {d : Nat} {m : MC} {pc : Nat} {ls : List (Option AV)} {st : List AV} {M : Me} {Q : Option AV → Me → Prop}
theorem w_iconst {n : Int} {x : Int32} (hd : decode (mB m) pc = .ok (.iconst n, 1)) (hv : Int32.ofInt n = x) (hk : Wp E d m (pc + 1) ls (vI x :: st) M Q) : Wp E d m pc ls st M Q := by
  intro p e s mid args below meth c H locs js F hP hS hl h1 h2 h3
  exact lv_iconst F.1 F.2.1 hd hv (hk p e s mid args below meth c H locs js F hP hS hl (okSt_cons trivial h1) h2 h3)
theorem w_bipush {n : Int} {x : Int32} (hd : decode (mB m) pc = .ok (.bipush n, 2)) (hv : (Int8.ofInt n).toInt32 = x) (hk : Wp E d m (pc + 2) ls (vI x :: st) M Q) : Wp E d m pc ls st M Q := by
  intro p e s mid args below meth c H locs js F hP hS hl h1 h2 h3
  exact lv_bipush F.1 F.2.1 hd hv (hk p e s mid args below meth c H locs js F hP hS hl (okSt_cons trivial h1) h2 h3)
theorem w_sipush {n : Int} {x : Int32} (hd : decode (mB m) pc = .ok (.sipush n, 3)) (hv : (Int16.ofInt n).toInt32 = x) (hk : Wp E d m (pc + 3) ls (vI x :: st) M Q) : Wp E d m pc ls st M Q := by
  intro p e s mid args below meth c H locs js F hP hS hl h1 h2 h3
  exact lv_sipush F.1 F.2.1 hd hv (hk p e s mid args below meth c H locs js F hP hS hl (okSt_cons trivial h1) h2 h3)
theorem w_lconst {n : Fin 2} {x : Int64} (hd : decode (mB m) pc = .ok (.lconst n, 1)) (hv : Int64.ofNat (n : Nat) = x) (hk : Wp E d m (pc + 1) ls (vJ x :: st) M Q) : Wp E d m pc ls st M Q := by
  intro p e s mid args below meth c H locs js F hP hS hl h1 h2 h3
  exact lv_lconst F.1 F.2.1 hd hv (hk p e s mid args below meth c H locs js F hP hS hl (okSt_cons trivial h1) h2 h3)
theorem w_iload_n {k : Fin 4} {x : Int32} (hd : decode (mB m) pc = .ok (.iload_n k, 1)) (hg : lg ls k.val = some (vI x)) (hk : Wp E d m (pc + 1) ls (vI x :: st) M Q) : Wp E d m pc ls st M Q := by
  intro p e s mid args below meth c H locs js F hP hS hl h1 h2 h3
  exact lv_iload_n F.1 F.2.1 hd rfl (lv_get hl hg) (hk p e s mid args below meth c H locs js F hP hS hl (okSt_cons trivial h1) h2 h3)
theorem w_iload {k : Nat} {x : Int32} (hd : decode (mB m) pc = .ok (.iload k, 2)) (hg : lg ls k = some (vI x)) (hk : Wp E d m (pc + 2) ls (vI x :: st) M Q) : Wp E d m pc ls st M Q := by
  intro p e s mid args below meth c H locs js F hP hS hl h1 h2 h3
  exact lv_iload F.1 F.2.1 hd (lv_get hl hg) (hk p e s mid args below meth c H locs js F hP hS hl (okSt_cons trivial h1) h2 h3)
theorem w_lload_n {k : Fin 4} {x : Int64} (hd : decode (mB m) pc = .ok (.lload_n k, 1)) (hg : lg ls k.val = some (vJ x)) (hk : Wp E d m (pc + 1) ls (vJ x :: st) M Q) : Wp E d m pc ls st M Q := by
  intro p e s mid args below meth c H locs js F hP hS hl h1 h2 h3
  exact lv_lload_n F.1 F.2.1 hd rfl (lv_get hl hg) (hk p e s mid args below meth c H locs js F hP hS hl (okSt_cons trivial h1) h2 h3)
theorem w_lload {k : Nat} {x : Int64} (hd : decode (mB m) pc = .ok (.lload k, 2)) (hg : lg ls k = some (vJ x)) (hk : Wp E d m (pc + 2) ls (vJ x :: st) M Q) : Wp E d m pc ls st M Q := by
  intro p e s mid args below meth c H locs js F hP hS hl h1 h2 h3
  exact lv_lload F.1 F.2.1 hd (lv_get hl hg) (hk p e s mid args below meth c H locs js F hP hS hl (okSt_cons trivial h1) h2 h3)
theorem w_aload_n {k : Fin 4} {q : Nat × Nat} (hd : decode (mB m) pc = .ok (.aload_n k, 1)) (hg : lg ls k.val = some (.inr (.inr q))) (hk : Wp E d m (pc + 1) ls (.inr (.inr q) :: st) M Q) : Wp E d m pc ls st M Q := by
  intro p e s mid args below meth c H locs js F hP hS hl h1 h2 h3
  exact lv_aload_n F.1 F.2.1 hd rfl (lv_get hl hg) (hk p e s mid args below meth c H locs js F hP hS hl (okSt_cons (h2 _ (lg_mem _ _ _ hg)) h1) h2 h3)
theorem w_aload {k : Nat} {q : Nat × Nat} (hd : decode (mB m) pc = .ok (.aload k, 2)) (hg : lg ls k = some (.inr (.inr q))) (hk : Wp E d m (pc + 2) ls (.inr (.inr q) :: st) M Q) : Wp E d m pc ls st M Q := by
  intro p e s mid args below meth c H locs js F hP hS hl h1 h2 h3
  exact lv_aload F.1 F.2.1 hd (lv_get hl hg) (hk p e s mid args below meth c H locs js F hP hS hl (okSt_cons (h2 _ (lg_mem _ _ _ hg)) h1) h2 h3)
theorem w_istore_n {k : Fin 4} {x : Int32} (hd : decode (mB m) pc = .ok (.istore_n k, 1)) (hn : k.val < mL m) (hk : Wp E d m (pc + 1) (sto ls k.val (vI x)) st M Q) : Wp E d m pc ls (vI x :: st) M Q := by
  intro p e s mid args below meth c H locs js F hP hS hl h1 h2 h3
  exact lv_istore_n F.1 F.2.1 hd rfl hl hn rfl (fun js' hl' => hk p e s mid args below meth c H locs js' F hP hS (lv_of_sto (v := vI x) hl') (okSt_tl h1) (okLs_sto h2 trivial) h3)
theorem w_istore {k : Nat} {x : Int32} (hd : decode (mB m) pc = .ok (.istore k, 2)) (hn : k < mL m) (hk : Wp E d m (pc + 2) (sto ls k (vI x)) st M Q) : Wp E d m pc ls (vI x :: st) M Q := by
  intro p e s mid args below meth c H locs js F hP hS hl h1 h2 h3
  exact lv_istore F.1 F.2.1 hd hl hn rfl (fun js' hl' => hk p e s mid args below meth c H locs js' F hP hS (lv_of_sto (v := vI x) hl') (okSt_tl h1) (okLs_sto h2 trivial) h3)
theorem w_lstore_n {k : Fin 4} {x : Int64} (hd : decode (mB m) pc = .ok (.lstore_n k, 1)) (hn : k.val + 1 < mL m) (hk : Wp E d m (pc + 1) (sto2 ls k.val (vJ x)) st M Q) : Wp E d m pc ls (vJ x :: st) M Q := by
  intro p e s mid args below meth c H locs js F hP hS hl h1 h2 h3
  exact lv_lstore_n F.1 F.2.1 hd rfl hl hn rfl (fun js' hl' => hk p e s mid args below meth c H locs js' F hP hS (lv_of_sto2 (v := vJ x) hl') (okSt_tl h1) (okLs_sto2 h2 trivial) h3)
theorem w_lstore {k : Nat} {x : Int64} (hd : decode (mB m) pc = .ok (.lstore k, 2)) (hn : k + 1 < mL m) (hk : Wp E d m (pc + 2) (sto2 ls k (vJ x)) st M Q) : Wp E d m pc ls (vJ x :: st) M Q := by
  intro p e s mid args below meth c H locs js F hP hS hl h1 h2 h3
  exact lv_lstore F.1 F.2.1 hd hl hn rfl (fun js' hl' => hk p e s mid args below meth c H locs js' F hP hS (lv_of_sto2 (v := vJ x) hl') (okSt_tl h1) (okLs_sto2 h2 trivial) h3)
theorem w_astore_n {k : Fin 4} {q : Nat × Nat} (hd : decode (mB m) pc = .ok (.astore_n k, 1)) (hn : k.val < mL m) (hk : Wp E d m (pc + 1) (sto ls k.val (.inr (.inr q))) st M Q) : Wp E d m pc ls (.inr (.inr q) :: st) M Q := by
  intro p e s mid args below meth c H locs js F hP hS hl h1 h2 h3
  exact lv_astore_n F.1 F.2.1 hd rfl hl hn rfl (fun js' hl' => hk p e s mid args below meth c H locs js' F hP hS (lv_of_sto (v := .inr (.inr q)) hl') (okSt_tl h1) (okLs_sto h2 (okSt_hd h1)) h3)
theorem w_astore {k : Nat} {q : Nat × Nat} (hd : decode (mB m) pc = .ok (.astore k, 2)) (hn : k < mL m) (hk : Wp E d m (pc + 2) (sto ls k (.inr (.inr q))) st M Q) : Wp E d m pc ls (.inr (.inr q) :: st) M Q := by
  intro p e s mid args below meth c H locs js F hP hS hl h1 h2 h3
  exact lv_astore F.1 F.2.1 hd hl hn rfl (fun js' hl' => hk p e s mid args below meth c H locs js' F hP hS (lv_of_sto (v := .inr (.inr q)) hl') (okSt_tl h1) (okLs_sto h2 (okSt_hd h1)) h3)
theorem w_iinc {k : Nat} {n : Int} {x v : Int32} (hd : decode (mB m) pc = .ok (.iinc k n, 3)) (hg : lg ls k = some (vI x)) (hv : x + Int32.ofInt n = v) (hn : k < mL m) (hk : Wp E d m (pc + 3) (sto ls k (vI v)) st M Q) : Wp E d m pc ls st M Q := by
  intro p e s mid args below meth c H locs js F hP hS hl h1 h2 h3
  have hm := lg_at (E := E) ls 0 k _ hg
  rw [Nat.zero_add] at hm
  obtain ⟨z, hz⟩ := List.getElem?_of_mem hm
  exact lv_iinc F.1 F.2.1 hd hl (k := z) hz hv hn rfl (fun js' hl' => hk p e s mid args below meth c H locs js' F hP hS (lv_of_sto (v := vI v) hl') h1 (okLs_sto h2 trivial) h3)
theorem w_iadd {x y : Int32} (hd : decode (mB m) pc = .ok (.iadd, 1)) (hk : Wp E d m (pc + 1) ls (vI (x + y) :: st) M Q) : Wp E d m pc ls (vI y :: vI x :: st) M Q := by
  intro p e s mid args below meth c H locs js F hP hS hl h1 h2 h3
  exact lv_iadd F.1 F.2.1 hd (hk p e s mid args below meth c H locs js F hP hS hl (okSt_cons trivial (okSt_tl (okSt_tl h1))) h2 h3)
theorem w_isub {x y : Int32} (hd : decode (mB m) pc = .ok (.isub, 1)) (hk : Wp E d m (pc + 1) ls (vI (x - y) :: st) M Q) : Wp E d m pc ls (vI y :: vI x :: st) M Q := by
  intro p e s mid args below meth c H locs js F hP hS hl h1 h2 h3
  exact lv_isub F.1 F.2.1 hd (hk p e s mid args below meth c H locs js F hP hS hl (okSt_cons trivial (okSt_tl (okSt_tl h1))) h2 h3)
theorem w_imul {x y : Int32} (hd : decode (mB m) pc = .ok (.imul, 1)) (hk : Wp E d m (pc + 1) ls (vI (x * y) :: st) M Q) : Wp E d m pc ls (vI y :: vI x :: st) M Q := by
  intro p e s mid args below meth c H locs js F hP hS hl h1 h2 h3
  exact lv_imul F.1 F.2.1 hd (hk p e s mid args below meth c H locs js F hP hS hl (okSt_cons trivial (okSt_tl (okSt_tl h1))) h2 h3)
theorem w_iand {x y : Int32} (hd : decode (mB m) pc = .ok (.iand, 1)) (hk : Wp E d m (pc + 1) ls (vI (x &&& y) :: st) M Q) : Wp E d m pc ls (vI y :: vI x :: st) M Q := by
  intro p e s mid args below meth c H locs js F hP hS hl h1 h2 h3
  exact lv_iand F.1 F.2.1 hd (hk p e s mid args below meth c H locs js F hP hS hl (okSt_cons trivial (okSt_tl (okSt_tl h1))) h2 h3)
theorem w_ior {x y : Int32} (hd : decode (mB m) pc = .ok (.ior, 1)) (hk : Wp E d m (pc + 1) ls (vI (x ||| y) :: st) M Q) : Wp E d m pc ls (vI y :: vI x :: st) M Q := by
  intro p e s mid args below meth c H locs js F hP hS hl h1 h2 h3
  exact lv_ior F.1 F.2.1 hd (hk p e s mid args below meth c H locs js F hP hS hl (okSt_cons trivial (okSt_tl (okSt_tl h1))) h2 h3)
theorem w_ixor {x y : Int32} (hd : decode (mB m) pc = .ok (.ixor, 1)) (hk : Wp E d m (pc + 1) ls (vI (x ^^^ y) :: st) M Q) : Wp E d m pc ls (vI y :: vI x :: st) M Q := by
  intro p e s mid args below meth c H locs js F hP hS hl h1 h2 h3
  exact lv_ixor F.1 F.2.1 hd (hk p e s mid args below meth c H locs js F hP hS hl (okSt_cons trivial (okSt_tl (okSt_tl h1))) h2 h3)
theorem w_ishl {x y : Int32} (hd : decode (mB m) pc = .ok (.ishl, 1)) (hk : Wp E d m (pc + 1) ls (vI (x <<< (y &&& 31)) :: st) M Q) : Wp E d m pc ls (vI y :: vI x :: st) M Q := by
  intro p e s mid args below meth c H locs js F hP hS hl h1 h2 h3
  exact lv_ishl F.1 F.2.1 hd (hk p e s mid args below meth c H locs js F hP hS hl (okSt_cons trivial (okSt_tl (okSt_tl h1))) h2 h3)
theorem w_ishr {x y : Int32} (hd : decode (mB m) pc = .ok (.ishr, 1)) (hk : Wp E d m (pc + 1) ls (vI (x >>> (y &&& 31)) :: st) M Q) : Wp E d m pc ls (vI y :: vI x :: st) M Q := by
  intro p e s mid args below meth c H locs js F hP hS hl h1 h2 h3
  exact lv_ishr F.1 F.2.1 hd (hk p e s mid args below meth c H locs js F hP hS hl (okSt_cons trivial (okSt_tl (okSt_tl h1))) h2 h3)
theorem w_ladd {x y : Int64} (hd : decode (mB m) pc = .ok (.ladd, 1)) (hk : Wp E d m (pc + 1) ls (vJ (x + y) :: st) M Q) : Wp E d m pc ls (vJ y :: vJ x :: st) M Q := by
  intro p e s mid args below meth c H locs js F hP hS hl h1 h2 h3
  exact lv_ladd F.1 F.2.1 hd (hk p e s mid args below meth c H locs js F hP hS hl (okSt_cons trivial (okSt_tl (okSt_tl h1))) h2 h3)
theorem w_lsub {x y : Int64} (hd : decode (mB m) pc = .ok (.lsub, 1)) (hk : Wp E d m (pc + 1) ls (vJ (x - y) :: st) M Q) : Wp E d m pc ls (vJ y :: vJ x :: st) M Q := by
  intro p e s mid args below meth c H locs js F hP hS hl h1 h2 h3
  exact lv_lsub F.1 F.2.1 hd (hk p e s mid args below meth c H locs js F hP hS hl (okSt_cons trivial (okSt_tl (okSt_tl h1))) h2 h3)
theorem w_lmul {x y : Int64} (hd : decode (mB m) pc = .ok (.lmul, 1)) (hk : Wp E d m (pc + 1) ls (vJ (x * y) :: st) M Q) : Wp E d m pc ls (vJ y :: vJ x :: st) M Q := by
  intro p e s mid args below meth c H locs js F hP hS hl h1 h2 h3
  exact lv_lmul F.1 F.2.1 hd (hk p e s mid args below meth c H locs js F hP hS hl (okSt_cons trivial (okSt_tl (okSt_tl h1))) h2 h3)
theorem w_idiv {x y : Int32} (hd : decode (mB m) pc = .ok (.idiv, 1)) (hne : ¬ y = 0) (hk : Wp E d m (pc + 1) ls (vI (x / y) :: st) M Q) : Wp E d m pc ls (vI y :: vI x :: st) M Q := by
  intro p e s mid args below meth c H locs js F hP hS hl h1 h2 h3
  exact lv_idiv F.1 F.2.1 hd hne (hk p e s mid args below meth c H locs js F hP hS hl (okSt_cons trivial (okSt_tl (okSt_tl h1))) h2 h3)
theorem w_irem {x y : Int32} (hd : decode (mB m) pc = .ok (.irem, 1)) (hne : ¬ y = 0) (hk : Wp E d m (pc + 1) ls (vI (x - x / y * y) :: st) M Q) : Wp E d m pc ls (vI y :: vI x :: st) M Q := by
  intro p e s mid args below meth c H locs js F hP hS hl h1 h2 h3
  exact lv_irem F.1 F.2.1 hd hne (hk p e s mid args below meth c H locs js F hP hS hl (okSt_cons trivial (okSt_tl (okSt_tl h1))) h2 h3)
theorem w_ldiv {x y : Int64} (hd : decode (mB m) pc = .ok (.ldiv, 1)) (hne : ¬ y = 0) (hk : Wp E d m (pc + 1) ls (vJ (x / y) :: st) M Q) : Wp E d m pc ls (vJ y :: vJ x :: st) M Q := by
  intro p e s mid args below meth c H locs js F hP hS hl h1 h2 h3
  exact lv_ldiv F.1 F.2.1 hd hne (hk p e s mid args below meth c H locs js F hP hS hl (okSt_cons trivial (okSt_tl (okSt_tl h1))) h2 h3)
theorem w_lrem {x y : Int64} (hd : decode (mB m) pc = .ok (.lrem, 1)) (hne : ¬ y = 0) (hk : Wp E d m (pc + 1) ls (vJ (x - x / y * y) :: st) M Q) : Wp E d m pc ls (vJ y :: vJ x :: st) M Q := by
  intro p e s mid args below meth c H locs js F hP hS hl h1 h2 h3
  exact lv_lrem F.1 F.2.1 hd hne (hk p e s mid args below meth c H locs js F hP hS hl (okSt_cons trivial (okSt_tl (okSt_tl h1))) h2 h3)
theorem w_iushr {x y : Int32} (hd : decode (mB m) pc = .ok (.iushr, 1)) (hk : Wp E d m (pc + 1) ls (vI (x.toUInt32 >>> (y.toUInt32 &&& Int32.toUInt32 31)).toInt32 :: st) M Q) : Wp E d m pc ls (vI y :: vI x :: st) M Q := by
  intro p e s mid args below meth c H locs js F hP hS hl h1 h2 h3
  exact lv_iushr F.1 F.2.1 hd rfl (hk p e s mid args below meth c H locs js F hP hS hl (okSt_cons trivial (okSt_tl (okSt_tl h1))) h2 h3)
theorem w_lcmp {x y : Int64} (hd : decode (mB m) pc = .ok (.lcmp, 1)) (hk : Wp E d m (pc + 1) ls (vI (lg_cmp x y) :: st) M Q) : Wp E d m pc ls (vJ y :: vJ x :: st) M Q := by
  intro p e s mid args below meth c H locs js F hP hS hl h1 h2 h3
  exact W.lcmp F.1 F.2.1 hd (hk p e s mid args below meth c H locs js F hP hS hl (okSt_cons trivial (okSt_tl (okSt_tl h1))) h2 h3)
theorem w_i2l {x : Int32} (hd : decode (mB m) pc = .ok (.i2l, 1)) (hk : Wp E d m (pc + 1) ls (vJ x.toInt64 :: st) M Q) : Wp E d m pc ls (vI x :: st) M Q := by
  intro p e s mid args below meth c H locs js F hP hS hl h1 h2 h3
  exact lv_i2l F.1 F.2.1 hd rfl (hk p e s mid args below meth c H locs js F hP hS hl (okSt_cons trivial (okSt_tl h1)) h2 h3)
theorem w_l2i {x : Int64} (hd : decode (mB m) pc = .ok (.l2i, 1)) (hk : Wp E d m (pc + 1) ls (vI x.toInt32 :: st) M Q) : Wp E d m pc ls (vJ x :: st) M Q := by
  intro p e s mid args below meth c H locs js F hP hS hl h1 h2 h3
  exact lv_l2i F.1 F.2.1 hd rfl (hk p e s mid args below meth c H locs js F hP hS hl (okSt_cons trivial (okSt_tl h1)) h2 h3)
theorem w_i2b {x : Int32} (hd : decode (mB m) pc = .ok (.i2b, 1)) (hk : Wp E d m (pc + 1) ls (vI x.toInt8.toInt32 :: st) M Q) : Wp E d m pc ls (vI x :: st) M Q := by
  intro p e s mid args below meth c H locs js F hP hS hl h1 h2 h3
  exact lv_i2b F.1 F.2.1 hd rfl (hk p e s mid args below meth c H locs js F hP hS hl (okSt_cons trivial (okSt_tl h1)) h2 h3)
theorem w_goto {off : Int} (hd : decode (mB m) pc = .ok (.goto off, 3)) (ho : 0 ≤ (pc : Int) + off) (hk : Wp E d m (jt pc off) ls st M Q) : Wp E d m pc ls st M Q := by
  intro p e s mid args below meth c H locs js F hP hS hl h1 h2 h3
  exact lv_goto F.1 F.2.1 hd (jt_eq ho) (hk p e s mid args below meth c H locs js F hP hS hl h1 h2 h3)
theorem cat1 {E : EV} {v : AV} (h : ∀ x, v ≠ vJ x) : (cv E v).category = 1 := by
  match v, h with
  | .inl x, _ => rfl
  | .inr (.inl x), h => exact absurd rfl (h x)
  | .inr (.inr q), _ => rfl
theorem w_dup {v : AV} (hd : decode (mB m) pc = .ok (.dup, 1)) (hv : ∀ x, v ≠ vJ x) (hk : Wp E d m (pc + 1) ls (v :: v :: st) M Q) : Wp E d m pc ls (v :: st) M Q := by
  intro p e s mid args below meth c H locs js F hP hS hl h1 h2 h3
  exact lv_dup F.1 F.2.1 hd (cat1 hv) (hk p e s mid args below meth c H locs js F hP hS hl (okSt_cons (okSt_hd h1) h1) h2 h3)
theorem w_dup2 {v u : AV} (hd : decode (mB m) pc = .ok (.dup2, 1)) (hv : ∀ x, v ≠ vJ x) (hu : ∀ x, u ≠ vJ x) (hk : Wp E d m (pc + 1) ls (v :: u :: v :: u :: st) M Q) : Wp E d m pc ls (v :: u :: st) M Q := by
  intro p e s mid args below meth c H locs js F hP hS hl h1 h2 h3
  exact lv_dup2_11 F.1 F.2.1 hd (cat1 hv) (cat1 hu) (hk p e s mid args below meth c H locs js F hP hS hl (okSt_cons (okSt_hd h1) (okSt_cons (okSt_hd (okSt_tl h1)) h1)) h2 h3)
def xIc (cd : Jvm.ClassFile.Cond) (x y : Int32) (kt kf : Prop) : Prop := match cd with
  | .eq => (x = y → kt) ∧ (¬ x = y → kf)
  | .ne => (¬ x = y → kt) ∧ (x = y → kf)
  | .lt => (x < y → kt) ∧ (¬ x < y → kf)
  | .ge => (y ≤ x → kt) ∧ (¬ y ≤ x → kf)
  | .gt => (y < x → kt) ∧ (¬ y < x → kf)
  | .le => (x ≤ y → kt) ∧ (¬ x ≤ y → kf)
theorem w_icmp {cd : Jvm.ClassFile.Cond} {off : Int} {x y : Int32} (hd : decode (mB m) pc = .ok (.if_icmp cd off, 3)) (ho : 0 ≤ (pc : Int) + off) (hk : xIc cd x y (Wp E d m (jt pc off) ls st M Q) (Wp E d m (pc + 3) ls st M Q)) : Wp E d m pc ls (vI y :: vI x :: st) M Q := by
  intro p e s mid args below meth c H locs js F hP hS hl h1 h2 h3
  have h1 := okSt_tl (okSt_tl h1)
  cases cd with
  | eq => exact lv_icmp_eq F.1 F.2.1 hd (jt_eq ho) (fun z => hk.1 z p e s mid args below meth c H locs js F hP hS hl h1 h2 h3) (fun z => hk.2 z p e s mid args below meth c H locs js F hP hS hl h1 h2 h3)
  | ne => exact lv_icmp_ne F.1 F.2.1 hd (jt_eq ho) (fun z => hk.1 z p e s mid args below meth c H locs js F hP hS hl h1 h2 h3) (fun z => hk.2 z p e s mid args below meth c H locs js F hP hS hl h1 h2 h3)
  | lt => exact lv_icmp_lt F.1 F.2.1 hd (jt_eq ho) (fun z => hk.1 z p e s mid args below meth c H locs js F hP hS hl h1 h2 h3) (fun z => hk.2 z p e s mid args below meth c H locs js F hP hS hl h1 h2 h3)
  | ge => exact lv_icmp_ge F.1 F.2.1 hd (jt_eq ho) (fun z => hk.1 z p e s mid args below meth c H locs js F hP hS hl h1 h2 h3) (fun z => hk.2 z p e s mid args below meth c H locs js F hP hS hl h1 h2 h3)
  | gt => exact lv_icmp_gt F.1 F.2.1 hd (jt_eq ho) (fun z => hk.1 z p e s mid args below meth c H locs js F hP hS hl h1 h2 h3) (fun z => hk.2 z p e s mid args below meth c H locs js F hP hS hl h1 h2 h3)
  | le => exact lv_icmp_le F.1 F.2.1 hd (jt_eq ho) (fun z => hk.1 z p e s mid args below meth c H locs js F hP hS hl h1 h2 h3) (fun z => hk.2 z p e s mid args below meth c H locs js F hP hS hl h1 h2 h3)
theorem w_ifc {cd : Jvm.ClassFile.Cond} {off : Int} {x : Int32} (hd : decode (mB m) pc = .ok (.ifCond cd off, 3)) (ho : 0 ≤ (pc : Int) + off) (hk : xIc cd x 0 (Wp E d m (jt pc off) ls st M Q) (Wp E d m (pc + 3) ls st M Q)) : Wp E d m pc ls (vI x :: st) M Q := by
  intro p e s mid args below meth c H locs js F hP hS hl h1 h2 h3
  have h1 := okSt_tl h1
  cases cd with
  | eq => exact lv_if_eq F.1 F.2.1 hd (jt_eq ho) (fun z => hk.1 z p e s mid args below meth c H locs js F hP hS hl h1 h2 h3) (fun z => hk.2 z p e s mid args below meth c H locs js F hP hS hl h1 h2 h3)
  | ne => exact lv_if_ne F.1 F.2.1 hd (jt_eq ho) (fun z => hk.1 z p e s mid args below meth c H locs js F hP hS hl h1 h2 h3) (fun z => hk.2 z p e s mid args below meth c H locs js F hP hS hl h1 h2 h3)
  | lt => exact lv_if_lt F.1 F.2.1 hd (jt_eq ho) (fun z => hk.1 z p e s mid args below meth c H locs js F hP hS hl h1 h2 h3) (fun z => hk.2 z p e s mid args below meth c H locs js F hP hS hl h1 h2 h3)
  | ge => exact lv_if_ge F.1 F.2.1 hd (jt_eq ho) (fun z => hk.1 z p e s mid args below meth c H locs js F hP hS hl h1 h2 h3) (fun z => hk.2 z p e s mid args below meth c H locs js F hP hS hl h1 h2 h3)
  | gt => exact lv_if_gt F.1 F.2.1 hd (jt_eq ho) (fun z => hk.1 z p e s mid args below meth c H locs js F hP hS hl h1 h2 h3) (fun z => hk.2 z p e s mid args below meth c H locs js F hP hS hl h1 h2 h3)
  | le => exact lv_if_le F.1 F.2.1 hd (jt_eq ho) (fun z => hk.1 z p e s mid args below meth c H locs js F hP hS hl h1 h2 h3) (fun z => hk.2 z p e s mid args below meth c H locs js F hP hS hl h1 h2 h3)
end SM
