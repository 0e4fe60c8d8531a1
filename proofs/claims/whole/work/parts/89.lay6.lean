/-! lay: the reference ties the kinds of its rows -/
/-- pairs k < i ahead of (i0, k0) -/
def dnM (i k j : Nat) : Prop := j / 6 ≠ j % 6 ∧ ((j % 6 < j / 6 ∧ (j / 6 < i ∨ (j / 6 = i ∧ j % 6 < k))) ∨ (j / 6 < j % 6 ∧ (j % 6 < i ∨ (j % 6 = i ∧ j / 6 < k))))
def lyM2 (m0 m : HP) (kn : Nat → Nat → Nat) (n i k : Nat) : Prop := (∀ j, j < 36 → (dnM i k j → m.1 1 (4064 + j) = nI (LN kn n j)) ∧ (¬ dnM i k j → m.1 1 (4064 + j) = m0.1 1 (4064 + j))) ∧ (∀ j, j < 4064 → m.1 1 j = m0.1 1 j) ∧ ∀ a, a ≠ 1 → m.1 a = m0.1 a
set_option maxHeartbeats 400000 in
theorem lyM_tie {m0 m : HP} {kn : Nat → Nat → Nat} {n i k x : Nat} (hi : i < 6) (hk : k < i) (e1 : x = LN kn n (6 * i + k)) (e2 : cwN x = LN kn n (6 * k + i)) (V : lyM2 m0 m kn n i k) : lyM2 m0 (upI (upI m 1 (4064 + (6 * i + k)) (nI x)) 1 (4064 + (6 * k + i)) (nI (cwN x))) kn n i (k + 1) := by
  obtain ⟨a, b, c⟩ := V
  refine ⟨fun j hj => ?_, fun j hj => by rw [upI_s, if_neg (by omega), upI_s, if_neg (by omega)]; exact b j hj, fun y h1 => by rw [upI_at _ _ _ _ h1, upI_at _ _ _ _ h1]; exact c y h1⟩
  rw [upI_s, upI_s]
  by_cases z : j = 6 * k + i
  · rw [if_pos (by omega)]
    refine ⟨fun _ => by rw [e2, z], fun no => absurd (show dnM i (k + 1) j from by unfold dnM; omega) no⟩
  · rw [if_neg (by omega)]
    by_cases y : j = 6 * i + k
    · rw [if_pos (by omega)]
      refine ⟨fun _ => by rw [e1, y], fun no => absurd (show dnM i (k + 1) j from by unfold dnM; omega) no⟩
    · rw [if_neg (by omega)]
      have same : dnM i (k + 1) j ↔ dnM i k j := by unfold dnM; omega
      rw [same]; exact a j hj
