/-! the world behind the constructors, as the small machine has it -/
def off (i r : Nat) : Nat := cond (Nat.blt i 10) i (cond (Nat.beq i 10) (10 + r) (cond (Nat.beq i 11) 20 (cond (Nat.beq i 12) (21 + r) (cond (Nat.blt i 19) (i + 10) (cond (Nat.beq i 19) (29 + r) (cond (Nat.beq i 20) 38 (cond (Nat.blt i 27) (i + 19) (cond (Nat.beq i 27) 39 (cond (Nat.blt i 44) (i + 16 + 27 * r) (cond (Nat.beq i 44) (60 + r % 8 + 27 * (r / 8)) (cond (Nat.blt i 50) (i + 23 + 27 * r) (i + 40))))))))))))
def mkE (l : Launch) (D : va_G) (h0 : Nat) (sa : Nat → Nat) (cI cB cZ cJ cQ : ClassId) (sv : Nat → Nat) : EV := (l, D, fun i r => cond (Nat.blt i 78) (h0 + off i r) (sa (i - 300)), cI, cB, cZ, cJ, cQ, sv)
def me0 : Me := (fun i _ k => cond (Nat.beq i 0 && Nat.beq k 13) (-(nI 1)) (cond (Nat.beq i 31 && Nat.beq k 4) (nI 8) (cond (Nat.beq i 36 && Nat.beq k 4) (nI 4) (cond (Nat.beq i 60 && Nat.beq k 2) (-(nI 1)) 0))), fun _ _ _ => 0, fun i _ k => cond (Nat.beq i 0 && Nat.beq k 10) 1 0)
/-- the order of allocation -/
def plO (r : Nat) : List (Nat × Nat) := ((List.range 14).map fun k => (30 + k, r)) ++ ((List.range 8).map fun k => (44, k + 8 * r)) ++ ((List.range 5).map fun k => (45 + k, r))
def alo : List (Nat × Nat) := ((List.range 10).map fun k => (k, 0)) ++ ((List.range 10).map fun k => (10, k)) ++ [(11, 0), (12, 0), (12, 1), (13, 0), (14, 0), (15, 0), (16, 0), (17, 0), (18, 0)] ++ ((List.range 9).map fun k => (19, k)) ++ [(20, 0), (27, 0)] ++ ((List.range 6).map fun k => (21 + k, 0)) ++ plO 0 ++ plO 1 ++ ((List.range 18).map fun k => (60 + k, 0))
theorem alo_pls : pls.all (fun q => alo.contains q) = true := by decide +kernel
theorem alo_off : (alo.map fun q => off q.1 q.2) = List.range 118 := by decide +kernel
def cell0 (E : EV) (h0 : Nat) (q : Nat × Nat) : va_E := cond (Nat.beq (ly q.1).1 6) (.inl (eQ E, (ly q.1).2, .inr (.inr (.inr (.inr fun j => some (h0 + off q.1 q.2 + 1 + j)))))) (cellE E me0 q)
theorem row_off : pls.all (fun q => !Nat.beq (ly q.1).1 6 || (List.range (ly q.1).2).all (fun j => Nat.beq (off q.1 q.2 + 1 + j) (off (tgt q.1 0) (j + q.2 * (ly q.1).2)) && Nat.blt (tgt q.1 0) 78)) = true := by decide +kernel
section SE
variable (l : Launch) (D : va_G) (h0 : Nat) (sa : Nat → Nat) (cI cB cZ cJ cQ : ClassId) (sv : Nat → Nat)
def fE (l : Launch) (D : va_G) (h0 : Nat) (sa : Nat → Nat) (cI cB cZ cJ cQ : ClassId) (sv : Nat → Nat) (q : Nat × Nat) : Nat × va_E := (h0 + off q.1 q.2, cell0 (mkE l D h0 sa cI cB cZ cJ cQ sv) h0 q)
theorem e_Tape : rc_Tape (mkE l D h0 sa cI cB cZ cJ cQ sv) (h0 + 0 + 1) = [(1, 0), (2, 0)].map (fE l D h0 sa cI cB cZ cJ cQ sv) := rfl
theorem e_Reader : rc_Reader (mkE l D h0 sa cI cB cZ cJ cQ sv) (h0 + 0 + 3) (h0 + 0 + 1) = [(3, 0)].map (fE l D h0 sa cI cB cZ cJ cQ sv) := rfl
theorem e_Now : rc_Now (mkE l D h0 sa cI cB cZ cJ cQ sv) (h0 + 0 + 4) = [(4, 0), (5, 0), (6, 0), (7, 0)].map (fE l D h0 sa cI cB cZ cJ cQ sv) := rfl
theorem e_Market : rc_Market (mkE l D h0 sa cI cB cZ cJ cQ sv) (h0 + 0 + 40) (h0 + 0 + 24) = [(21, 0), (22, 0)].map (fE l D h0 sa cI cB cZ cJ cQ sv) := rfl
theorem e_Squeezer : rc_Squeezer (mkE l D h0 sa cI cB cZ cJ cQ sv) (h0 + 0 + 42) (h0 + 0 + 24) = [(23, 0), (24, 0), (25, 0), (26, 0)].map (fE l D h0 sa cI cB cZ cJ cQ sv) := rfl
end SE
