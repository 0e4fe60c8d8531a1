/-! lay: the reference's loops -/
section LM3
variable {m0 m : HP} {w : Nat → Int32} {s n i : Nat}
set_option maxHeartbeats 400000 in
theorem M_ly42 (hw : m0.1 1 = w) (R : RowsOk w) (hs : s < 2) (hn : n ≤ 6) (hns : n ≤ nS w s) (hi : i < 6) (L : lyM2 m0 m (knS w s) n i 0) : ∃ m', f_Mo_lay_l42 0 m (nI s) (nI n) (nI i) (m, 0) = some (Sum.inl (m', nI (i + 1))) ∧ lyM2 m0 m' (knS w s) n i i := by
  have hN := (R s hs).2.1
  unfold f_Mo_lay_l42
  have key := loop_inv (body := fun x : HP × Int32 => f_Mo_lay_b42 0 x.1 (nI s) (nI n) (nI i) x.2) (fun k x => ∃ m' : HP, x = (m', nI k) ∧ lyM2 m0 m' (knS w s) n i k) i (fun y => ∃ m' : HP, y = Sum.inl (m', nI (i + 1)) ∧ lyM2 m0 m' (knS w s) n i i) (fun k x hk hI => ?_) (fun x hI => ?_) (m, 0) ⟨m, rfl, L⟩
  · obtain ⟨y, e, m', rfl, L'⟩ := key
    exact ⟨m', e, L'⟩
  · obtain ⟨m', rfl, L'⟩ := hI
    have d1 : (6 * i + k) / 6 = i := by omega
    have d2 : (6 * i + k) % 6 = k := by omega
    have d3 : (6 * k + i) / 6 = k := by omega
    have d4 : (6 * k + i) % 6 = i := by omega
    show ∃ s', f_Mo_lay_b42 0 m' (nI s) (nI n) (nI i) (nI k) = some (Sum.inl s') ∧ _
    unfold f_Mo_lay_b42 f_Mo_lay_j74
    rw [if_neg (nI_ge hk (by omega)), nI_1]
    by_cases z : n ≤ i
    · rw [if_pos (nI_le z (by omega))]
      have tl := M_ties (m := m') (i := i) (k := k) (x := 8191) hi (by omega) (by decide)
      have nx := lyM_tie (kn := knS w s) (n := n) (x := 8191) hi hk (by unfold LN; rw [d1, d2, if_neg (by omega), if_neg (by omega)]) (by rw [cw_all]; unfold LN; rw [d3, d4, if_neg (by omega), if_neg (by omega)]) L'
      exact ⟨(_, nI (k + 1)), bsome tl rfl, _, rfl, nx⟩
    · rw [if_neg (nI_ge (by omega) (by omega))]
      obtain ⟨e1, l1⟩ := knS_eq w s i k
      have p13 : 2 ^ knS w s i k < 2 ^ 13 := Nat.pow_lt_pow_right (by decide) l1
      have e2 : ∀ j, 2 ≤ j → j < 404 → m'.1 1 j = w j := fun j _ hj => by rw [L'.2.1 j (by omega), hw]
      have kd := M_kindB (h := m') hs (show i < 40 by omega) hs (show k < 40 by omega) (v1 := nI s) (v2 := nI i) (v3 := nI s) (v4 := nI k) rfl rfl rfl rfl
      have kd' : f_Mo_kindBetween 0 m' (nI s) (nI i) (nI s) (nI k) = some (nI (knS w s i k)) := by
        rw [kd, ← e1]
        unfold sp ep
        rw [fld_cg e2 hs (show i < 40 by omega) (show 2 < 5 by omega), fld_cg e2 hs (show i < 40 by omega) (show 3 < 5 by omega), fld_cg e2 hs (show k < 40 by omega) (show 2 < 5 by omega), fld_cg e2 hs (show k < 40 by omega) (show 3 < 5 by omega)]
      have tl := M_ties (m := m') (i := i) (k := k) (x := 2 ^ knS w s i k) hi (by omega) p13
      have tl' := (congrArg (fun v => f_Mo_ties 0 m' (nI i) (nI k) v) (one_shl13 _ l1)).trans tl
      have nx := lyM_tie (kn := knS w s) (n := n) (x := 2 ^ knS w s i k) hi hk (by unfold LN; rw [d1, d2, if_neg (by omega), if_pos (by omega)]) (by rw [cw_one _ l1]; unfold LN; rw [d3, d4, if_neg (by omega), if_pos (by omega), knS_sym R hs (show i < nS w s by omega) (show k < nS w s by omega)]) L'
      exact ⟨(_, nI (k + 1)), bsome kd' (bsome tl' rfl), _, rfl, nx⟩
  · obtain ⟨m', rfl, L'⟩ := hI
    show ∃ t, f_Mo_lay_b42 0 m' (nI s) (nI n) (nI i) (nI i) = some (Sum.inr t) ∧ _
    unfold f_Mo_lay_b42
    rw [if_pos (nle _), nI_1]
    exact ⟨_, rfl, m', rfl, L'⟩
end LM3
