/-! lay: the class's net, laid -/
section LY2
variable {h0 h : HP} {w : Nat → Int32} {s n : Nat}
set_option maxHeartbeats 400000 in
theorem lyV_next {kn : Nat → Nat → Nat} {i : Nat} (V : lyV h0 h kn n i n) : lyV h0 h kn n (i + 1) (i + 1 + 1) := by
  obtain ⟨a, b, c⟩ := V
  refine ⟨fun j hj => ?_, b, c⟩
  have same : dnP n (i + 1) (i + 1 + 1) j ↔ dnP n i n j := by unfold dnP; omega
  rw [same]; exact a j hj
set_option maxHeartbeats 400000 in
theorem X_ly47 (V : SV h0 1 w) (R : RowsOk w) (hs : s < 2) (hn : n ≤ 6) (hns : n ≤ nS w s) (L : lyV h0 h (knS w s) n 0 1) : ∃ h', f_TJ_lay_l47 0 h (nI s) (nI n) (h, 0) = some (h', 1) ∧ (∀ j, j < 36 → h'.1 30 j = nI (LN (knS w s) n j)) ∧ h'.1 29 2 = 0 ∧ ∀ a, a ≠ 29 → a ≠ 30 → h'.1 a = h0.1 a := by
  unfold f_TJ_lay_l47
  have key := loop_inv (body := fun x : HP × Int32 => f_TJ_lay_b47 0 x.1 (nI s) (nI n) x.2) (fun i x => ∃ h' : HP, x = (h', nI i) ∧ lyV h0 h' (knS w s) n i (i + 1)) n (fun y => ∃ h' : HP, y = (h', 1) ∧ lyV h0 h' (knS w s) n n (n + 1)) (fun i x hi hI => ?_) (fun x hI => ?_) (h, 0) ⟨h, rfl, L⟩
  · obtain ⟨y, e, h', rfl, a, b, c⟩ := key
    refine ⟨h', e, fun j hj => ?_, b, c⟩
    by_cases z : dnP n n (n + 1) j
    · exact (a j hj).1 z
    · rw [(a j hj).2 z]
      congr 1
      unfold lz LN
      by_cases y : j / 6 = j % 6
      · rw [if_pos y, if_pos y]
      · rw [if_neg y, if_neg y, if_neg (fun u => z (by unfold dnP; omega))]
  · obtain ⟨h', rfl, L'⟩ := hI
    obtain ⟨h2, e2, L2⟩ := X_ly57 V R hs hn hns hi L'
    show ∃ s', f_TJ_lay_b47 0 h' (nI s) (nI n) (nI i) = some (Sum.inl s') ∧ _
    unfold f_TJ_lay_b47
    rw [if_neg (nI_ge hi (by omega)), nI_1, e2]
    exact ⟨_, rfl, h2, rfl, lyV_next L2⟩
  · obtain ⟨h', rfl, L'⟩ := hI
    show ∃ t, f_TJ_lay_b47 0 h' (nI s) (nI n) (nI n) = some (Sum.inr t) ∧ _
    unfold f_TJ_lay_b47
    rw [if_pos (nle _)]
    exact ⟨_, rfl, h', rfl, L'⟩
end LY2
