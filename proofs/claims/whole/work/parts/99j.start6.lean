/-! the reference's cells -/
theorem nl10 : nl 10 = [.int 0, .int 0, .int 0, .null, .int 0, .int 0, .int 0, .int 0, .int 0, .int 0, .int 0, .int 0, .int 0, .long 0, .null, .null, .null, .int 0, .int 0, .int 0, .int 0, .int 0, .int 0, .int 0, .null, .null, .null, .null, .null, .int 0, .null, .null, .int 0, .int 0, .null, .int 0, .int 0, .int 0, .int 0, .null, .null, .int 0, .null, .null, .null] := rfl
section SE5
variable (l : Launch) (D : va_G) (h0 : Nat) (sa : Nat → Nat) (cI cB cZ cJ cQ : ClassId) (sv : Nat → Nat)
theorem f60 : fE l D h0 sa cI cB cZ cJ cQ sv (60, 0) = (h0 + 100, .inr (10, (List.range 45).map fun k => cv (mkE l D h0 sa cI cB cZ cJ cQ sv) (getF me0 60 0 k))) := rfl
theorem e_Mo : rc_Mo (mkE l D h0 sa cI cB cZ cJ cQ sv) (h0 + 100) = ((List.range 18).map fun k => (60 + k, 0)).map (fE l D h0 sa cI cB cZ cJ cQ sv) := by
  unfold rc_Mo
  rw [nl10]
  simp only [List.set_cons_zero, List.set_cons_succ]
  rfl
theorem w0_eq : rc_CS (mkE l D h0 sa cI cB cZ cJ cQ sv) (h0 + 0) ++ rc_Mo (mkE l D h0 sa cI cB cZ cJ cQ sv) (h0 + 100) = alo.map (fE l D h0 sa cI cB cZ cJ cQ sv) := by
  rw [e_CS, e_Mo, ← List.map_append]
  rfl
end SE5
