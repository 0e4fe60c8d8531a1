/-! lay: the class tells the kinds of its rows -/
def LN (kn : Nat → Nat → Nat) (n j : Nat) : Nat := if j / 6 = j % 6 then 64 else if j / 6 < n ∧ j % 6 < n then 2 ^ kn (j / 6) (j % 6) else 8191
/-- pairs a < b below n, ahead of (i, k) -/
def dnP (n i k j : Nat) : Prop := j / 6 ≠ j % 6 ∧ j / 6 < n ∧ j % 6 < n ∧ ((j / 6 < j % 6 ∧ (j / 6 < i ∨ (j / 6 = i ∧ j % 6 < k))) ∨ (j % 6 < j / 6 ∧ (j % 6 < i ∨ (j % 6 = i ∧ j / 6 < k))))
def lyV (h0 h : HP) (kn : Nat → Nat → Nat) (n i k : Nat) : Prop := (∀ j, j < 36 → (dnP n i k j → h.1 30 j = nI (LN kn n j)) ∧ (¬ dnP n i k j → h.1 30 j = nI (lz j))) ∧ h.1 29 2 = 0 ∧ ∀ a, a ≠ 29 → a ≠ 30 → h.1 a = h0.1 a
set_option maxHeartbeats 400000 in
theorem lyV_tell {h0 h : HP} {kn : Nat → Nat → Nat} {n i k : Nat} (hn : n ≤ 6) (hik : i < k) (hk : k < n) (k13 : ∀ a b, a < n → b < n → kn a b < 13) (sym : ∀ a b, a < n → b < n → kn b a = 12 - kn a b) (V : lyV h0 h kn n i k) : lyV h0 (upI (upI (upI h 30 (6 * i + k) (nI (2 ^ kn i k))) 30 (6 * k + i) (nI (cwN (2 ^ kn i k)))) 29 2 0) kn n i (k + 1) := by
  obtain ⟨a, b, c⟩ := V
  refine ⟨fun j hj => ?_, by rw [upI_s, if_pos rfl], fun x h1 h2 => by rw [upI_at _ _ _ _ h1, upI_at _ _ _ _ h2, upI_at _ _ _ _ h2]; exact c x h1 h2⟩
  rw [upI_ne _ _ _ _ (show 30 ≠ 29 by decide), upI_s, upI_s]
  have kk := k13 i k (by omega) hk
  by_cases z : j = 6 * k + i
  · have e1 : j / 6 = k := by omega
    have e2 : j % 6 = i := by omega
    rw [if_pos z]
    refine ⟨fun _ => ?_, fun no => absurd (show dnP n i (k + 1) j from ⟨by omega, by omega, by omega, Or.inr ⟨by omega, Or.inr ⟨by omega, by omega⟩⟩⟩) no⟩
    unfold LN
    rw [if_neg (by omega), if_pos (by omega), e1, e2, sym i k (by omega) hk, cw_one _ kk]
  · rw [if_neg z]
    by_cases y : j = 6 * i + k
    · have e1 : j / 6 = i := by omega
      have e2 : j % 6 = k := by omega
      rw [if_pos y]
      refine ⟨fun _ => ?_, fun no => absurd (show dnP n i (k + 1) j from ⟨by omega, by omega, by omega, Or.inl ⟨by omega, Or.inr ⟨by omega, by omega⟩⟩⟩) no⟩
      unfold LN
      rw [if_neg (by omega), if_pos (by omega), e1, e2]
    · rw [if_neg y]
      have same : dnP n i (k + 1) j ↔ dnP n i k j := by unfold dnP; omega
      rw [same]; exact a j hj
