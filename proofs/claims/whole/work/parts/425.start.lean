set_option maxRecDepth 20000 in
theorem wM_0 : r_wordsM (s0M 14) := by
  unfold r_wordsM
  decide +kernel
theorem rel_0 : Rel s0C s0M := by
  refine ⟨⟨0, by omega, rfl, rfl⟩, ⟨0, by omega, rfl, rfl⟩, ⟨rfl, Or.inl rfl⟩, ⟨3, by omega, rfl, rfl⟩, ⟨rfl, rfl⟩, fun d hd => ⟨⟨0, by omega, rfl, rfl⟩, ⟨0, by omega, rfl, rfl⟩⟩, ?_, rfl, ⟨rfl, rfl, rfl⟩, ⟨rfl, rfl, rfl⟩, ?_, rfl, ⟨0, by omega, rfl, rfl⟩, rfl, rfl, ⟨rfl, Or.inl rfl⟩, ⟨60, by omega, rfl, rfl⟩, ?_, ⟨0, by omega, rfl, rfl, fun j hj => by omega⟩, wM_0, ?_, ⟨0, by omega, rfl, rfl, fun j hj => by omega⟩, ?_, ⟨0, by omega, rfl, rfl, fun j hj => by omega⟩, ?_, fun n hn => Or.inl rfl⟩
  · exact ⟨⟨rfl, rfl, rfl⟩, fun _ _ => 0, fun _ _ => 0, ⟨fun k z hk hz => ⟨Nat.zero_le _, Nat.zero_le _, fun _ => rfl⟩, fun k z hk hz e => rfl⟩, fun k z hk hz => ⟨rfl, rfl, rfl, rfl, rfl, rfl⟩⟩
  · exact ⟨fun _ => 0, fun _ => 0, fun _ => 0, fun _ => 0, ⟨fun j hj => ⟨Nat.zero_le _, Nat.zero_le _, Nat.zero_le _, Nat.zero_le _, fun _ => ⟨rfl, rfl, rfl⟩⟩, fun c z hc hz e => rfl⟩, fun j hj => ⟨rfl, rfl, rfl, rfl, rfl, rfl, rfl, rfl⟩⟩
  · intro k hk
    rcases (show k = 0 ∨ k = 1 ∨ k = 2 ∨ k = 3 ∨ k = 4 ∨ k = 5 ∨ k = 6 by omega) with rfl | rfl | rfl | rfl | rfl | rfl | rfl
    · exact ⟨0, by omega, rfl, rfl⟩
    · exact ⟨20, by omega, rfl, rfl⟩
    · exact ⟨40, by omega, rfl, rfl⟩
    · exact ⟨50, by omega, rfl, rfl⟩
    · exact ⟨40, by omega, rfl, rfl⟩
    · exact ⟨20, by omega, rfl, rfl⟩
    · exact ⟨0, by omega, rfl, rfl⟩
  · refine ⟨[], [], 44, 51, 58, fW_44, fW_51, fW_58, by omega, by omega, by omega, rfl, rfl, rfl, ⟨by decide, by decide, by decide, fun q hq => by cases hq⟩, ⟨by decide, by decide, by decide, fun q hq => by cases hq⟩, ⟨rfl, fun l q hq => by simp at hq⟩, ⟨rfl, fun l q hq => by simp at hq⟩, ⟨rfl, fun l q hq => by simp at hq⟩, ⟨rfl, fun l q hq => by simp at hq⟩, Or.inl rfl⟩
  · intro k hk
    rcases (show k = 0 ∨ k = 1 ∨ k = 2 ∨ k = 3 ∨ k = 4 ∨ k = 5 ∨ k = 6 ∨ k = 7 by omega) with rfl | rfl | rfl | rfl | rfl | rfl | rfl | rfl <;> exact Or.inl ⟨rfl, rfl⟩
  · exact ⟨0, fun _ => 0, fun _ => 0, fun _ => 0, fun _ => 0, by omega, rfl, rfl, fun i hi => by omega, fun j hj => ⟨rfl, rfl⟩⟩
