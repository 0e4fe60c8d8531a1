/-! lay: the class's net loosened -/
def lz (j : Nat) : Nat := if j / 6 = j % 6 then 64 else 8191
section LZ
variable {h0 h : HP} {i : Nat}
set_option maxHeartbeats 400000 in
theorem X_lz10 (hi : i < 6) (f0 : ∀ a, a ≠ 30 → h.1 a = h0.1 a) (f1 : ∀ j, j < 6 * i → h.1 30 j = nI (lz j)) : ∃ h', f_We_loosen_l10 29 h (nI i) (h, 0) = some (Sum.inl (h', nI (i + 1))) ∧ (∀ a, a ≠ 30 → h'.1 a = h0.1 a) ∧ ∀ j, j < 6 * (i + 1) → h'.1 30 j = nI (lz j) := by
  unfold f_We_loosen_l10
  have key := loop_inv (body := fun x : HP × Int32 => f_We_loosen_b10 29 x.1 (nI i) x.2) (fun k x => ∃ h' : HP, x = (h', nI k) ∧ (∀ a, a ≠ 30 → h'.1 a = h0.1 a) ∧ ∀ j, j < 6 * i + k → h'.1 30 j = nI (lz j)) 6 (fun y => ∃ h' : HP, y = Sum.inl (h', nI (i + 1)) ∧ (∀ a, a ≠ 30 → h'.1 a = h0.1 a) ∧ ∀ j, j < 6 * (i + 1) → h'.1 30 j = nI (lz j)) (fun k x hk hI => ?_) (fun x hI => ?_) (h, 0) ⟨h, rfl, f0, fun j hj => f1 j (by omega)⟩
  · obtain ⟨y, e, h', rfl, a, b⟩ := key
    exact ⟨h', e, a, b⟩
  · obtain ⟨h', rfl, g0, g1⟩ := hI
    have l : nI i * 6 + nI k = nI (6 * i + k) := by rw [show nI i * 6 = nI (i * 6) from pk_mul i 6, nI_add, Nat.mul_comm]
    have fin : ∀ v : Int32, v = nI (lz (6 * i + k)) → ((∀ a, a ≠ 30 → (upI h' 30 (6 * i + k) v).1 a = h0.1 a) ∧ ∀ j, j < 6 * i + (k + 1) → (upI h' 30 (6 * i + k) v).1 30 j = nI (lz j)) := fun v hv => by
      refine ⟨fun a ha => by rw [upI_at _ _ _ _ ha]; exact g0 a ha, fun j hj => ?_⟩
      rw [upI_s]
      by_cases z : j = 6 * i + k
      · rw [if_pos z, z]; exact hv
      · rw [if_neg z]; exact g1 j (by omega)
    show ∃ s', f_We_loosen_b10 29 h' (nI i) (nI k) = some (Sum.inl s') ∧ _
    unfold f_We_loosen_b10
    rw [if_neg (show ¬ (6 : Int32) ≤ nI k from nI_ge (b := 6) hk (by decide)), l, if_pos (inb_nI (show 6 * i + k < 36 by omega) (by decide)), ix_nI (by omega), nI_1]
    by_cases z : i = k
    · rw [if_pos (by rw [z])]
      exact ⟨_, rfl, _, rfl, fin 64 (by unfold lz; rw [if_pos (by omega)]; rfl)⟩
    · rw [if_neg (fun e => z ((nI_eq (by omega) (by omega)).mp e)), if_pos (inb_nI (show 6 * i + k < 36 by omega) (by decide))]
      exact ⟨_, rfl, _, rfl, fin 8191 (by unfold lz; rw [if_neg (by omega)]; rfl)⟩
  · obtain ⟨h', rfl, g0, g1⟩ := hI
    show ∃ t, f_We_loosen_b10 29 h' (nI i) (nI 6) = some (Sum.inr t) ∧ _
    unfold f_We_loosen_b10
    rw [if_pos (show (6 : Int32) ≤ nI 6 from nle 6), nI_1]
    exact ⟨_, rfl, h', rfl, g0, fun j hj => g1 j (by omega)⟩
set_option maxHeartbeats 400000 in
theorem X_loosen (h : HP) : ∃ h' : HP, f_We_loosen 29 h = some h' ∧ (∀ j, j < 36 → h'.1 30 j = nI (lz j)) ∧ h'.1 29 2 = 0 ∧ ∀ a, a ≠ 29 → a ≠ 30 → h'.1 a = h.1 a := by
  unfold f_We_loosen f_We_loosen_l2
  have key := loop_inv (body := fun x : HP × Int32 => f_We_loosen_b2 29 x.1 x.2) (fun i x => ∃ h' : HP, x = (h', nI i) ∧ (∀ a, a ≠ 30 → h'.1 a = h.1 a) ∧ ∀ j, j < 6 * i → h'.1 30 j = nI (lz j)) 6 (fun h' => (∀ j, j < 36 → h'.1 30 j = nI (lz j)) ∧ h'.1 29 2 = 0 ∧ ∀ a, a ≠ 29 → a ≠ 30 → h'.1 a = h.1 a) (fun i x hi hI => ?_) (fun x hI => ?_) (h, 0) ⟨h, rfl, fun _ _ => rfl, fun j hj => by omega⟩
  · exact key
  · obtain ⟨h', rfl, g0, g1⟩ := hI
    obtain ⟨h2, e2, a2, b2⟩ := X_lz10 hi g0 g1
    show ∃ s', f_We_loosen_b2 29 h' (nI i) = some (Sum.inl s') ∧ _
    unfold f_We_loosen_b2
    rw [if_neg (show ¬ (6 : Int32) ≤ nI i from nI_ge (b := 6) hi (by decide)), e2]
    exact ⟨_, rfl, h2, rfl, a2, b2⟩
  · obtain ⟨h', rfl, g0, g1⟩ := hI
    show ∃ t, f_We_loosen_b2 29 h' (nI 6) = some (Sum.inr t) ∧ _
    unfold f_We_loosen_b2
    rw [if_pos (show (6 : Int32) ≤ nI 6 from nle 6)]
    exact ⟨_, rfl, fun j hj => by rw [upI_at _ _ _ _ (by decide)]; exact g1 j (by omega), by rw [upI_s, if_pos rfl], fun a a1 a2 => by rw [upI_at _ _ _ _ a1]; exact g0 a a2⟩
end LZ
