/-! The first state -/
def hq_z : hq_St := (fun _ _ => 0, fun _ _ => 0)
theorem INV0 : INV hq_z := by
  refine ⟨fun _ _ => 0, 0, 0, [], fun _ => none, 0, [], [], 0, fun _ => 0, [], ⟨⟨?_, ?_, ?_, ?_, ?_⟩, ?_, ?_⟩, ⟨⟨?_, ?_, ?_, ?_, ?_, ?_⟩, ?_⟩, ?_, ?_, ?_⟩
  · exact ⟨⟨⟨by decide, by decide, fun d h => absurd h (Nat.not_lt_zero _), fun d h => absurd h (Nat.not_lt_zero _), fun _ => Nat.zero_le 9⟩, rfl, rfl, fun d h => absurd h (Nat.not_lt_zero _), fun d h => absurd h (Nat.not_lt_zero _), fun _ _ _ => rfl⟩, rfl, rfl⟩
  · exact ⟨by decide, rfl, fun j h => absurd h (Nat.not_lt_zero _)⟩
  · exact ⟨fun i _ => rfl, 0, by decide, by decide, rfl, by decide, rfl, fun i B h => by simp at h⟩
  · exact ⟨by decide, rfl, fun j v h => by simp at h⟩
  · exact ⟨⟨Or.inl rfl, by decide, by decide⟩, rfl, fun j t h => by simp [cS] at h⟩
  · exact ⟨by decide, rfl, fun j v h => by simp at h⟩
  · exact ⟨0, by decide, rfl, fun u _ => ⟨0, rfl, by decide, by decide⟩⟩
  · exact ⟨⟨⟨by decide, by decide, fun d h => absurd h (Nat.not_lt_zero _), fun d h => absurd h (Nat.not_lt_zero _), fun _ => Nat.zero_le 9⟩, rfl, rfl, fun d h => absurd h (Nat.not_lt_zero _), fun d h => absurd h (Nat.not_lt_zero _), fun d h => absurd h (Nat.not_lt_zero _), fun _ _ _ => rfl⟩, rfl, rfl⟩
  · exact ⟨by decide, rfl, fun j h => absurd h (Nat.not_lt_zero _)⟩
  · exact ⟨by decide, by decide, rfl, fun i B h => by simp at h⟩
  · exact ⟨rfl, fun i _ => rfl⟩
  · exact ⟨by decide, rfl, fun j v h => by simp at h⟩
  · exact ⟨⟨Or.inl rfl, by decide, by decide⟩, rfl, fun j t h => by simp [mS] at h⟩
  · exact ⟨by decide, rfl, fun j v h => by simp at h⟩
  · exact fun B h => by simp at h
  · exact fun i B dn hn c h => by cases h
  · exact Nat.le_refl _
