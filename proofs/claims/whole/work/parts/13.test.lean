theorem t_bit (E : EV) (d : Nat) (M : Me) (s : Int32) : Mt E d m_CS_bit [vI s] M (fun r M' => r = some (vI (nI 1 <<< (s &&& 31))) ∧ M' = M) :=
  Mt.of ok_CS_bit rfl (wpx_sound ok_CS_bit 4 _ _ _ _ (And.intro rfl rfl))
theorem t_channelBit (E : EV) (d : Nat) (M : Me) (s : Int32) : Mt E d m_CS_channelBit [vI s] M (fun r M' => r = some (vI (nI 1 <<< ((s - nI 1) &&& 31))) ∧ M' = M) :=
  Mt.of ok_CS_channelBit rfl (wpx_sound ok_CS_channelBit 6 _ _ _ _ (And.intro rfl rfl))
theorem t_has (E : EV) (d : Nat) (M : Me) (set s : Int32) : Mt E d m_CS_has [vI set, vI s] M (fun r M' => r = some (vI (if (set >>> (s &&& 31)) &&& nI 1 = 0 then 0 else 1)) ∧ M' = M) := by
  refine Mt.of ok_CS_has rfl (wpx_sound ok_CS_has 9 _ _ _ _ ?_)
  refine And.intro (fun c => ?_) (fun c => ?_)
  · refine And.intro (Or.inl rfl) (And.intro ?_ rfl)
    rw [if_pos c]; rfl
  · refine And.intro (Or.inr rfl) (And.intro ?_ rfl)
    rw [if_neg c]; rfl
theorem t_answered (E : EV) (d : Nat) (M : Me) (v : Int32) : Mt E d m_CS_answered [vP 0 0, vI v] M (fun r M' => r = some (vI v) ∧ M' = sI M 0 0 11 (nI 0)) :=
  Mt.of ok_CS_answered rfl (wpx_sound ok_CS_answered 5 _ _ _ _ (And.intro rfl rfl))
theorem t_hasText (E : EV) (d : Nat) (M : Me) : Mt E d m_CS_hasText [vP 0 0] M (fun r M' => r = some (vI (if 0 < M.1 31 (M.2.2 0 0 9) 5 then 1 else 0)) ∧ M' = M) := by
  refine Mt.of ok_CS_hasText rfl (wpx_sound ok_CS_hasText 9 _ _ _ _ ?_)
  refine And.intro (fun c => ?_) (fun c => ?_)
  · refine And.intro (Or.inl rfl) (And.intro ?_ rfl)
    sorry
  · refine And.intro (Or.inr rfl) (And.intro ?_ rfl)
    sorry
def sumW (M : Me) (set : Int32) : Nat → Int32
  | 0 => nI 0
  | n + 1 => if (set >>> (nI n &&& 31)) &&& nI 1 = 0 then sumW M set n else sumW M set n + M.1 6 0 n
theorem t_worthOf (E : EV) (d : Nat) (M : Me) (set : Int32) : Mt E (d + 1) m_Now_worthOf [vP 4 0, vI set] M (fun r M' => r = some (vI (sumW M set 8)) ∧ M' = M) := by
  refine Mt.of ok_Now_worthOf rfl (wpx_sound ok_Now_worthOf 4 _ _ _ _ ?_)
  have key : ∀ n, n ≤ 8 → Wp E (d + 1) m_Now_worthOf 4 [some (vP 4 0), some (vI set), some (vI (sumW M set (8 - n))), some (vI (nI (8 - n)))] [] M (fun r M' => r = some (vI (sumW M set 8)) ∧ M' = M) := by
    intro n
    induction n with
    | zero =>
      intro _
      refine wpx_sound ok_Now_worthOf 5 _ _ _ _ ?_
      refine And.intro (fun _ => And.intro rfl rfl) (fun c => absurd (by decide) c)
    | succ n ih =>
      intro hn
      refine wpx_sound ok_Now_worthOf 5 _ _ _ _ ?_
      refine And.intro (fun c => absurd c (by sorry)) (fun c => ?_)
      refine wpx_sound ok_Now_worthOf 3 _ _ _ _ ?_
      refine xc d ok_CS_has (t_has E d M set _) (Nat.lt_succ_self d) ?_
      rintro r M' ⟨rfl, rfl⟩
      sorry
  exact key 8 (Nat.le_refl 8)
