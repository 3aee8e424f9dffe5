/-! the reference, and all -/
section SE4
variable (l : Launch) (D : va_G) (h0 : Nat) (sa : Nat → Nat) (cI cB cZ cJ cQ : ClassId) (sv : Nat → Nat)
theorem e_CS : rc_CS (mkE l D h0 sa cI cB cZ cJ cQ sv) (h0 + 0) = (((List.range 10).map fun k => (k, 0)) ++ ((List.range 10).map fun k => (10, k)) ++ [(11, 0), (12, 0), (12, 1), (13, 0), (14, 0), (15, 0), (16, 0), (17, 0), (18, 0)] ++ ((List.range 9).map fun k => (19, k)) ++ [(20, 0), (27, 0)] ++ ((List.range 6).map fun k => (21 + k, 0)) ++ plO 0 ++ plO 1).map (fE l D h0 sa cI cB cZ cJ cQ sv) := by
  unfold rc_CS
  rw [e_Tape, e_Reader, e_Now, e_History, e_rows2, e_Packer, e_Market, e_Squeezer, e_Pa, e_Pb]
  rfl
end SE4
