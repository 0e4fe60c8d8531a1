theorem one0 : ¬ (1 : Int32) = 0 := by decide
def mtst (w : Nat → Int32) (s : Nat) (v2 : Int32) (i : Nat) (x : Int64) : Int64 := if (if 0 < cN (prt w s i) (nS w (1 - s)) then (1 : Int32) else 0) = v2 then x ||| (1 <<< (Int32.toInt64 (nI i) &&& 63)) else x
set_option maxHeartbeats 400000 in
theorem q_matched {h m : HP} {w : Nat → Int32} (Q : RQ h m w) (v1 v2 : Int32) : ∃ r, f_TJ_matched 0 h v1 v2 = some r ∧ f_Mo_matched 0 m v1 v2 = some r := by
  obtain ⟨hw, V, R, -⟩ := Q
  unfold f_TJ_matched f_Mo_matched
  rw [X_isSide, M_isSide]
  simp only [Option.bind_some]
  by_cases hv : v1 = 0 ∨ v1 = 1
  · obtain ⟨s, hs, rfl⟩ := side_in hv
    have V1 := V.rv hs
    have hn := V1.1
    rw [if_pos hv, if_neg (by decide), if_neg (by decide), X_rowsOf (b := 0 + 1) hs rfl]
    simp only [Option.bind_some]
    refine ⟨fI (mtst w s v2) (nS w s) 0, ?_, ?_⟩
    · unfold f_TJ_matched_l29
      rw [V1.2.1]
      refine loop_for (nS w s) (mtst w s v2) 0 _ (fun i x hi => ?_) ?_
      · unfold f_TJ_matched_b29
        simp only [if_neg (ngt hi hn), X_hasPartner V hs hi, Option.bind_some, nI_1, mtst, Nat.zero_add]
        split <;> (split <;> rfl)
      · unfold f_TJ_matched_b29
        simp only [if_pos (nle _)]
        rfl
    · unfold f_Mo_matched_l16
      refine loop_for (nS w s) (mtst w s v2) 0 _ (fun i x hi => ?_) ?_
      · have hc := cN_le (prt w s i) (nS w (1 - s))
        have hn3 := (R (1 - s) (by omega)).2.1
        unfold f_Mo_matched_b16 f_Mo_matched_j44
        simp only [if_pos (many_ix hs rfl).1, (many_ix hs rfl).2, Nat.zero_add, hw, (R s hs).1, if_neg (ngt hi hn), M_partners hw R hs hi, Option.bind_some, nI_1, mtst]
        by_cases h0 : 0 < cN (prt w s i) (nS w (1 - s))
        · rw [if_neg (nI_nle h0 (by omega)), if_pos h0]
          split <;> rfl
        · rw [if_pos (by rw [show cN (prt w s i) (nS w (1 - s)) = 0 by omega]; decide), if_neg h0]
          split <;> rfl
      · unfold f_Mo_matched_b16
        simp only [if_pos (many_ix hs rfl).1, (many_ix hs rfl).2, Nat.zero_add, hw, (R s hs).1, if_pos (nle _)]
        rfl
  · rw [if_neg hv]; exact ⟨_, rfl, rfl⟩
def wtst (w : Nat → Int32) (s : Nat) (k : Int32) (i : Nat) (x : Int64) : Int64 := if fld w s i 1 = k then x + (fld w s i 4).toInt64 * (fld w s i 3 - fld w s i 2).toInt64 else x
set_option maxHeartbeats 400000 in
theorem q_weight {h m : HP} {w : Nat → Int32} (Q : RQ h m w) (v1 v2 : Int32) : ∃ r, f_TJ_weight 0 h v1 v2 = some r ∧ f_Mo_weight 0 m v1 v2 = some r := by
  obtain ⟨hw, V, R, -⟩ := Q
  unfold f_TJ_weight f_Mo_weight
  rw [X_isSide, M_isSide, X_isKey, M_isKey]
  simp only [Option.bind_some]
  by_cases hv : v1 = 0 ∨ v1 = 1
  · obtain ⟨s, hs, rfl⟩ := side_in hv
    have V1 := V.rv hs
    have hn := V1.1
    simp only [if_pos hv, if_neg one0, X_rowsOf (b := 0 + 1) hs rfl, Option.bind_some]
    by_cases hk : 0 ≤ v2 ∧ v2 ≤ 9
    · simp only [if_pos hk, if_neg one0]
      refine ⟨fI (wtst w s v2) (nS w s) 0, ?_, ?_⟩
      · unfold f_TJ_weight_l33
        refine loop_for (nS w s) (wtst w s v2) 0 _ (fun i x hi => ?_) ?_
        · unfold f_TJ_weight_b33
          have hi' : inb (nI i) 40 := inb_nI (by omega) (by omega)
          simp only [Nat.zero_add, V1.2.1, if_neg (ngt hi hn), if_pos hi', ix_nI (show i < 2 ^ 31 by omega), (V1.2.2 i hi).2.1, (V1.2.2 i hi).2.2.2.2, X_long V1 hi, Option.bind_some, nI_1, wtst]
          split <;> rfl
        · unfold f_TJ_weight_b33
          simp only [Nat.zero_add, V1.2.1, if_pos (nle _)]
          rfl
      · unfold f_Mo_weight_l23
        refine loop_for (nS w s) (wtst w s v2) 0 _ (fun i x hi => ?_) ?_
        · unfold f_Mo_weight_b23
          simp only [if_pos (many_ix hs rfl).1, (many_ix hs rfl).2, Nat.zero_add, hw, (R s hs).1, if_neg (ngt hi hn), M_of hs (show i < 40 by omega) (k := 1) (v3 := 1) (by omega) rfl rfl rfl, M_of hs (show i < 40 by omega) (k := 4) (v3 := 4) (by omega) rfl rfl rfl, M_long hs (show i < 40 by omega) rfl rfl, Option.bind_some, nI_1, wtst, Int64.add_zero]
          split <;> rfl
        · unfold f_Mo_weight_b23
          simp only [if_pos (many_ix hs rfl).1, (many_ix hs rfl).2, Nat.zero_add, hw, (R s hs).1, if_pos (nle _)]
          rfl
    · simp only [if_neg hk]; exact ⟨_, rfl, rfl⟩
  · simp only [if_neg hv]; exact ⟨_, rfl, rfl⟩
