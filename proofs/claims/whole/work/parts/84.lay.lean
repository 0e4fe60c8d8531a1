/-! lay: a kind turned round -/
set_option maxHeartbeats 400000 in
theorem kK_13 (s e t f : Int32) : ∃ a, a < 13 ∧ kK s e t f = nI a := by
  unfold kK
  repeat' split
  · exact ⟨0, by decide, rfl⟩
  · exact ⟨1, by decide, rfl⟩
  · exact ⟨12, by decide, rfl⟩
  · exact ⟨11, by decide, rfl⟩
  · exact ⟨3, by decide, rfl⟩
  · exact ⟨6, by decide, rfl⟩
  · exact ⟨9, by decide, rfl⟩
  · exact ⟨7, by decide, rfl⟩
  · exact ⟨5, by decide, rfl⟩
  · exact ⟨2, by decide, rfl⟩
  · exact ⟨8, by decide, rfl⟩
  · exact ⟨4, by decide, rfl⟩
  · exact ⟨10, by decide, rfl⟩
set_option maxHeartbeats 400000 in
theorem kK_turn {s e t f : Int32} (h1 : s < e) (h2 : t < f) : kK t f s e = 12 - kK s e t f := by
  unfold kK; grind
set_option maxHeartbeats 400000 in
theorem cw_one : ∀ a, a < 13 → cwN (2 ^ a) = 2 ^ (12 - a) := by decide +kernel
set_option maxHeartbeats 400000 in
theorem cw_all : cwN 8191 = 8191 := by decide +kernel
