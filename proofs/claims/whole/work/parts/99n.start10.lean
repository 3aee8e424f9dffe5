/-! Strings -/
def strK : List (String × Nat) := [("ChannelSqueeze$Reader", 61), ("ChannelSqueeze$Reader", 47), ("ChannelSqueeze$Reader", 145), ("ChannelSqueeze$Reader", 153), ("ChannelSqueeze$Reader", 97), ("ChannelSqueeze$Reader", 103), ("ChannelSqueeze$Reader", 108), ("ChannelSqueeze$Reader", 56), ("ChannelSqueeze", 373)]
def strT (i : Nat) : Term := .string (strK.getD i ("", 0)).1 (strK.getD i ("", 0)).2
def strB : List Nat := [22, 34, 46, 54, 66, 76, 90, 103, 120]
def nwL : List Cond := flatC (Jvm.Cond.and given_1 narrow_1)
def strX (k : Nat) (w : Cond) : Bool := decide (nwL[k]? = some w)
theorem st_ex : (List.range 9).all (fun i => strX (strB.getD i 0) (.exactly (strT i) "java/lang/String")) = true := by decide +kernel
theorem st_co : (List.range 9).all (fun i => strX (strB.getD i 0 + 1) (.eq (.field (strT i) "java/lang/String" "coder" "B") (.int 0))) = true := by decide +kernel
theorem st_ar : (List.range 9).all (fun i => strX (strB.getD i 0 + 2) (.arrayOf (.field (strT i) "java/lang/String" "value" "[B") .byte)) = true := by decide +kernel
theorem st_le : (List.range 9).all (fun i => strX (strB.getD i 0 + 3) (.eq (.length (.field (strT i) "java/lang/String" "value" "[B")) (.int (Int32.ofNat (strLen.getD i 0))))) = true := by decide +kernel
theorem st_el : (List.range 9).all (fun i => (List.range (strLen.getD i 0)).all fun j => strX (strB.getD i 0 + 4 + j) (.eq (.elem (.field (strT i) "java/lang/String" "value" "[B") (.int (Int32.ofNat j))) (.int ((strByt.getD i []).getD j 0)))) = true := by decide +kernel
theorem st_ne : (List.range 9).all (fun i => (List.range i).all fun j => strX (strB.getD i 0 + 4 + strLen.getD i 0 + j) (.not (.eq (strT j) (strT i)))) = true := by decide +kernel
theorem st_ln : ∀ i : Nat, i < 9 → strLen.getD i 0 < 2 ^ 31 := by decide +kernel
