/-! both plans, the reference, all -/
section SE3
variable (l : Launch) (D : va_G) (h0 : Nat) (sa : Nat → Nat) (cI cB cZ cJ cQ : ClassId) (sv : Nat → Nat)
theorem e_Pa : rc_Plan (mkE l D h0 sa cI cB cZ cJ cQ sv) (h0 + 0 + 46) = (plO 0).map (fE l D h0 sa cI cB cZ cJ cQ sv) := by
  unfold rc_Plan
  rw [e_S8a, e_S4a, e_nma]
  rfl
theorem e_Pb : rc_Plan (mkE l D h0 sa cI cB cZ cJ cQ sv) (h0 + 0 + 73) = (plO 1).map (fE l D h0 sa cI cB cZ cJ cQ sv) := by
  unfold rc_Plan
  rw [e_S8b, e_S4b, e_nmb]
  rfl
end SE3
