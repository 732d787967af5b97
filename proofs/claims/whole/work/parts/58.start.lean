/-! where both begin -/
def m0 (k : Nat) : Nat := if k = 0 then 2 else if k = 1 then 1 else 3
def d0' (k : Nat) : Nat := if k = 0 then 1 else if k = 1 then 3 else 2
def se0 (k : Nat) : Nat := if k = 0 then 14 else if k = 1 then 2 else if k = 2 then 1 else if k = 3 then 13 else if k = 4 then 20 else if k = 5 then 30 else if k = 6 then 12 else 1
def A0 : AbS := (([], m0, d0', se0, []), [], 0, [], fun _ => (false, 0, 0, fun _ => 0), 0)
theorem ok_0 : OKA A0 := by
  refine ⟨Nat.zero_le _, ?_, ?_, ⟨Nat.zero_le _, fun x hx => by cases hx⟩, Nat.zero_le _, ⟨Nat.zero_le _, fun x hx => by cases hx⟩, fun s _ => Nat.zero_le _⟩
  · show ∀ k, k < 3 → m0 k + d0' k ≤ 16
    decide
  · show ∀ k, k < 9 → se0 k ≤ mostS k
    decide
theorem law_0 : Inv σ0 := by
  refine ⟨A0, ok_0, ?_, ?_⟩
  · refine ⟨⟨Nat.zero_le _, rfl, fun i hi => absurd hi (Nat.not_lt_zero _)⟩, ⟨⟨rfl, rfl, rfl, PK_nil⟩, rfl⟩, ?_, ?_, ⟨rfl, fun i x hx => by cases hx⟩, ⟨rfl, fun i x hx => by cases hx⟩, rfl, ⟨⟨rfl, fun i x hx => by cases hx⟩, fun i => i, fun i hi => absurd hi (Nat.not_lt_zero _), fun i j _ hj => absurd hj (Nat.not_lt_zero _), fun p hp => absurd hp (Nat.not_lt_zero _)⟩, ?_, rfl, Or.inl rfl⟩
    · show ∀ k, k < 3 → σ0.1 10 k = nI (m0 k) ∧ σ0.1 11 k = nI (d0' k)
      intro k hk
      rcases k with _ | _ | _ | k
      · exact ⟨rfl, rfl⟩
      · exact ⟨rfl, rfl⟩
      · exact ⟨rfl, rfl⟩
      · omega
    · show ∀ k, k < 9 → σ0.1 8 k = nI (se0 k)
      intro k hk
      rcases k with _ | _ | _ | _ | _ | _ | _ | _ | _ | k
      all_goals first | rfl | omega
    · intro s hs
      rcases s with _ | _ | _ | _ | s
      · exact ⟨rfl, rfl, rfl, fun i _ => rfl⟩
      · exact ⟨rfl, rfl, rfl, fun i _ => rfl⟩
      · exact ⟨rfl, rfl, rfl, fun i _ => rfl⟩
      · exact ⟨rfl, rfl, rfl, fun i _ => rfl⟩
      · omega
  · refine ⟨⟨Nat.zero_le _, rfl, fun i hi => absurd hi (Nat.not_lt_zero _)⟩, ?_, ?_, ⟨rfl, fun i x hx => by cases hx⟩, ⟨rfl, fun i x hx => by cases hx⟩, rfl, ⟨rfl, fun i x hx => by cases hx⟩, ?_, rfl⟩
    · show ∀ k, k < 3 → σ0.1 50 k = nI (m0 k) ∧ σ0.1 51 k = nI (d0' k)
      intro k hk
      rcases k with _ | _ | _ | k
      · exact ⟨rfl, rfl⟩
      · exact ⟨rfl, rfl⟩
      · exact ⟨rfl, rfl⟩
      · omega
    · show ∀ k, k < 9 → σ0.1 52 k = nI (se0 k)
      intro k hk
      rcases k with _ | _ | _ | _ | _ | _ | _ | _ | _ | k
      all_goals first | rfl | omega
    · intro s hs
      rcases s with _ | _ | _ | _ | s
      · exact ⟨rfl, rfl, rfl, fun i _ => rfl⟩
      · exact ⟨rfl, rfl, rfl, fun i _ => rfl⟩
      · exact ⟨rfl, rfl, rfl, fun i _ => rfl⟩
      · exact ⟨rfl, rfl, rfl, fun i _ => rfl⟩
      · omega
theorem law_S : LawS Inv := ⟨l_type, l_wipe, l_undo, l_fault, l_bar, l_odds, l_set, l_read, l_hear, l_shown, l_forget, l_where, l_likeliest, l_strike, l_line, l_slips, l_safe, l_write, l_few, l_anew, l_joint, l_evening, l_prime, l_player, l_leave, l_worth, l_look, l_from, l_said, l_wrong, l_blame, l_night, l_sheet, l_lose, l_put, l_get, l_copy, l_tell, l_count, l_digest⟩
