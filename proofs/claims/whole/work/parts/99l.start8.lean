/-! what holds between calls holds at the start -/
theorem W1_0 : W1 me0 := by
  have hs : sN me0 = 0 := by decide +kernel
  have hb : bN me0 = 0 := by decide +kernel
  refine ⟨⟨by decide +kernel, by decide +kernel, by decide +kernel⟩, ⟨⟨by decide +kernel, by decide +kernel⟩, ⟨by decide +kernel, by decide +kernel⟩, ⟨by decide +kernel, by decide +kernel⟩⟩, ⟨by decide +kernel, by decide +kernel, by decide +kernel⟩, ⟨⟨by decide +kernel, by decide +kernel, by decide +kernel, by decide +kernel, by decide +kernel⟩, by decide +kernel, fun s h => absurd h (by rw [hs]; omega), fun b h => absurd h (by rw [hb]; omega)⟩, fun s h => absurd h (by rw [hs]; omega)⟩
theorem W2_0 : W2 me0 := ⟨0, by omega, by decide +kernel, by decide +kernel, fun k h => absurd h (by omega), fun k _ => ⟨show (0 : Int32) = nI (tN 0) by decide +kernel, show tN 0 < 256 by decide +kernel⟩⟩
theorem W3_0 : W3 me0 := by
  have hs : sN me0 = 0 := by decide +kernel
  refine ⟨⟨fun s h => absurd h (by rw [hs]; omega), fun s h => absurd h (by rw [hs]; omega), 0, by decide +kernel, by rw [hs]; decide⟩, fun s h => absurd h (by rw [hs]; omega), by decide +kernel, by decide +kernel⟩
theorem W4_0 : W4 me0 := by
  have hs : acN me0 = 0 := by decide +kernel
  exact ⟨⟨by decide +kernel, by decide +kernel⟩, ⟨by decide +kernel, by decide +kernel⟩, by decide +kernel, fun j h => absurd h (by rw [hs]; omega)⟩
theorem W5_0 : W5 me0 := fun i _ => ⟨⟨show (0 : Int32) = bI (bt 0 0) by decide +kernel, show (0 : Int32) = bI (bt 0 0) by decide +kernel⟩, fun h => absurd (show bt 0 0 = true from h) (by decide +kernel)⟩
theorem W6_0 : W6 me0 := ⟨by decide +kernel, by decide +kernel, by decide +kernel⟩
theorem KNm_0 : KNm me0 0 := ⟨by omega, 0, ⟨by decide +kernel, 0, by decide +kernel, by omega, fun h => absurd h (by omega), fun x _ => ⟨0, show (0 : Int32) = nI 0 by decide +kernel, by omega, fun _ _ _ => Nat.zero_le _⟩⟩, Nat.le_refl _, fun k _ => ⟨0, show (0 : Int32) = nI 0 by decide +kernel, Nat.zero_le _, fun h => absurd h (by omega)⟩⟩
theorem RRe_0 : RRe me0 := ⟨fun _ => 0, fun t _ => ⟨show (0 : Int32) = nI 0 by decide +kernel, Nat.zero_le _⟩⟩
theorem WI_st : WI me0 0 := ⟨⟨W1_0, W2_0⟩, ⟨W3_0, W4_0, W5_0⟩, W6_0, KNm_0, RRe_0⟩
