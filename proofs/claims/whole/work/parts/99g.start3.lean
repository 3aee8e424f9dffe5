/-! the larger ones -/
section SE2
variable (l : Launch) (D : va_G) (h0 : Nat) (sa : Nat → Nat) (cI cB cZ cJ cQ : ClassId) (sv : Nat → Nat)
theorem e_rows2 : rowsW (mkE l D h0 sa cI cB cZ cJ cQ sv) (h0 + 0 + 20) 2 26 = [(11, 0), (12, 0), (12, 1)].map (fE l D h0 sa cI cB cZ cJ cQ sv) := rfl
theorem e_kept : [(h0 + 0 + 23, (.inl (cZ, (2, .inl fun _ => 0)) : va_E))] = [(13, 0)].map (fE l D h0 sa cI cB cZ cJ cQ sv) := rfl
theorem e_History : rc_History (mkE l D h0 sa cI cB cZ cJ cQ sv) (h0 + 0 + 8) = [(8, 0), (9, 0), (10, 0), (10, 1), (10, 2), (10, 3), (10, 4), (10, 5), (10, 6), (10, 7), (10, 8), (10, 9)].map (fE l D h0 sa cI cB cZ cJ cQ sv) := rfl
theorem e_Packer : rc_Packer (mkE l D h0 sa cI cB cZ cJ cQ sv) (h0 + 0 + 24) = [(14, 0), (15, 0), (16, 0), (17, 0), (18, 0), (19, 0), (19, 1), (19, 2), (19, 3), (19, 4), (19, 5), (19, 6), (19, 7), (19, 8), (20, 0), (27, 0)].map (fE l D h0 sa cI cB cZ cJ cQ sv) := rfl
theorem e_S8a : rc_Sites8 (mkE l D h0 sa cI cB cZ cJ cQ sv) (h0 + 0 + 46 + 1) = [(31, 0), (32, 0), (33, 0), (34, 0), (35, 0)].map (fE l D h0 sa cI cB cZ cJ cQ sv) := rfl
theorem e_S4a : rc_Sites4 (mkE l D h0 sa cI cB cZ cJ cQ sv) (h0 + 0 + 46 + 6) = [(36, 0), (37, 0), (38, 0), (39, 0), (40, 0)].map (fE l D h0 sa cI cB cZ cJ cQ sv) := rfl
theorem e_S8b : rc_Sites8 (mkE l D h0 sa cI cB cZ cJ cQ sv) (h0 + 0 + 73 + 1) = [(31, 1), (32, 1), (33, 1), (34, 1), (35, 1)].map (fE l D h0 sa cI cB cZ cJ cQ sv) := rfl
theorem e_S4b : rc_Sites4 (mkE l D h0 sa cI cB cZ cJ cQ sv) (h0 + 0 + 73 + 6) = [(36, 1), (37, 1), (38, 1), (39, 1), (40, 1)].map (fE l D h0 sa cI cB cZ cJ cQ sv) := rfl
theorem e_nma : rowsW (mkE l D h0 sa cI cB cZ cJ cQ sv) (h0 + 0 + 46 + 13) 8 8 = [(43, 0), (44, 0), (44, 1), (44, 2), (44, 3), (44, 4), (44, 5), (44, 6), (44, 7)].map (fE l D h0 sa cI cB cZ cJ cQ sv) := rfl
theorem e_nmb : rowsW (mkE l D h0 sa cI cB cZ cJ cQ sv) (h0 + 0 + 73 + 13) 8 8 = [(43, 1), (44, 8), (44, 9), (44, 10), (44, 11), (44, 12), (44, 13), (44, 14), (44, 15)].map (fE l D h0 sa cI cB cZ cJ cQ sv) := rfl
end SE2
