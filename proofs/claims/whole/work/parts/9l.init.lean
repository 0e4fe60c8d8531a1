/-! fresh objects stand in the relation -/
set_option maxHeartbeats 400000 in
theorem lz_c : ∀ i, i < 6 → ∀ k, k < 6 → lz (6 * k + i) = cwN (lz (6 * i + k)) := by decide +kernel
set_option maxHeartbeats 400000 in
theorem lz_ok : NetOk lz := ⟨fun j _ => by unfold lz; split <;> decide, fun i k hi hk => lz_c i hi k hk, fun i hi => by unfold lz; rw [if_pos (by omega)]⟩
set_option maxHeartbeats 1000000 in
theorem RA_init {h mm : HP} (X : PrX h) (M : PrM mm) : RA false hp00 h mm := by
  obtain ⟨hs, ⟨s1, s2, s3, s4, s5⟩, e⟩ := X
  obtain ⟨w0, w1, wz, wn, wo⟩ := M
  have hz : ∀ c, 2 ≤ c → c < 29 → ∀ j, h.1 c j = 0 := fun c c1 c2 j => by
    rw [show c = 1 + (c - 1) by omega, e (c - 1) (by omega), s3 (c - 1) (by omega) (by omega)]
  have h16 : h.1 1 6 = 1 := by rw [show (1 : Nat) = 1 + 0 from rfl, e 0 (by omega)]; exact s1
  have h17 : h.1 1 7 = 2044 := by rw [show (1 : Nat) = 1 + 0 from rfl, e 0 (by omega)]; exact s2
  have n0 : ∀ s, s < 2 → nS (mm.1 1) s = 0 := fun s hs => by unfold nS; rw [wz (2 + s) (by omega) (by omega)]; rfl
  refine ⟨⟨⟨⟨?_, ?_, ?_, ?_⟩, fun s hs => ?_, ?_, ?_, ?_, ?_⟩, ?_, ?_⟩, ?_⟩
  · rw [h16, w0]
  · rw [h17, w1]
  · rw [n0 0 (by omega)]
    exact ⟨by omega, hz _ (by omega) (by omega) _, fun r hr => by omega⟩
  · rw [n0 1 (by omega)]
    exact ⟨by omega, hz _ (by omega) (by omega) _, fun r hr => by omega⟩
  · rw [n0 s hs]
    exact ⟨wz (2 + s) (by omega) (by omega), by omega, fun r hr => by omega⟩
  · rw [w0, w1]; exact ⟨Or.inr rfl, by decide⟩
  · exact ⟨0, by omega, hz _ (by omega) (by omega) _, wz 404 (by omega) (by omega), fun r hr => by omega⟩
  · exact ⟨0, by omega, hz _ (by omega) (by omega) _, wz 605 (by omega) (by omega), fun r hr => by omega⟩
  · refine ⟨0, 0, 0, fun _ => 0, fun _ => 0, fun _ _ => 0, ⟨by omega, by omega, Or.inl (wz 614 (by omega) (by omega))⟩, ⟨fun k hk => by omega, fun k k' hk => by omega, fun k hk => by omega⟩, fun s hs => ⟨fun i hi => absurd hi (Nat.not_lt_zero _), fun i j hi => absurd hi (Nat.not_lt_zero _), fun r hr => ⟨fun ⟨i, hi, _⟩ => absurd hi (Nat.not_lt_zero _), fun ⟨⟨k, hk, _⟩, _⟩ => by omega⟩⟩, Nat.zero_le _, ⟨wz 615 (by omega) (by omega), wz 616 (by omega) (by omega), fun k hk => by omega, fun s hs => ⟨wz (781 + s) (by omega) (by omega), fun i hi => absurd hi (Nat.not_lt_zero _)⟩, wz 863 (by omega) (by omega)⟩, ?_, fun k hk => by omega, fun s hs => ⟨hz _ (by omega) (by omega) _, fun i hi => absurd hi (Nat.not_lt_zero _)⟩, fun u hu => hz _ (by omega) (by omega) _, fun i hi => absurd hi (Nat.not_lt_zero _)⟩
    have a : ∀ j, h.1 (1 + 22) j = 0 := fun j => hz _ (by omega) (by omega) j
    rw [a, a, a, a, a, a, a, a, wz 614 (by omega) (by omega), wz 617 (by omega) (by omega), wz 618 (by omega) (by omega), wz 619 (by omega) (by omega), wz 620 (by omega) (by omega)]
    exact ⟨rfl, rfl, rfl, rfl, rfl, rfl, rfl, rfl⟩
  · refine ⟨lz, lz_ok, fun j hj => ⟨wn j hj, ?_⟩, Or.inl ?_⟩
    · rw [e 29 (by omega)]; exact s5 j hj
    · rw [e 28 (by omega)]; exact s4
  · exact Or.inl ⟨by rw [wo 0 (by decide)], fun j _ => by rw [wo 9 (by decide)]⟩
  · show mm.1 0 2 = 0
    rw [wo 0 (by decide)]
