/-! split: the reference, and both -/
def spA (a b c v : Int32) : Int32 := if v = 0 then a else if v = 1 then b else if v = 2 then c else -10000000
set_option maxHeartbeats 400000 in
theorem M_split1 {m : HP} {w : Nat → Int32} (hw : m.1 1 = w) (R : RowsOk w) {s r o k : Nat} (hs : s < 2) (hr : r < nS w s) (ho : o < nS w (1 - s)) {P : Int → Prop} (C : CT m k P) (hk : k + 1 < 190) (v3 v4 : Int32) : ∃ m' k', f_Mo_split_b53 0 m (nI s) (nI r) v3 v4 (nI (1 - s)) (sp w s r) (ep w s r) (nI o) = some (.inl (m', nI (o + 1))) ∧ CT m' k' (fun x => P x ∨ (prt w s r o = true ∧ ins w s r o x)) ∧ k' ≤ k + 2 ∧ frM [7] [9] m m' := by
  have hs1 : 1 - s < 2 := by omega
  have n1 := (R (1 - s) hs1).2.1
  have n2 := (R s hs).2.1
  have sl := sp_lt_ep R hs hr
  unfold f_Mo_split_b53
  simp only [if_pos (many_ix hs1 rfl).1, (many_ix hs1 rfl).2, Nat.zero_add, hw, (R (1 - s) hs1).1, if_neg (ngt ho n1), M_prt (h := m) hs (show r < 40 by omega) (show o < 40 by omega), M_start (h := m) hs1 (show o < 40 by omega) rfl rfl, M_isIn, Option.bind_some, nI_1]
  by_cases hp : prt w s r o = true
  · simp only [if_pos hp, if_neg one0]
    -- the start
    have st : ∃ m1 k1, (if (if sp w s r + 1 ≤ sp w (1 - s) o ∧ sp w (1 - s) o ≤ ep w s r - 1 then (1 : Int32) else 0) = 0 then f_Mo_split_j115 0 m (nI s) (nI r) v3 v4 (nI (1 - s)) (sp w s r) (ep w s r) (nI o) else ((f_Mo_cuts 0 m (sp w (1 - s) o)).bind fun h36 => f_Mo_split_j115 0 h36 (nI s) (nI r) v3 v4 (nI (1 - s)) (sp w s r) (ep w s r) (nI o))) = f_Mo_split_j115 0 m1 (nI s) (nI r) v3 v4 (nI (1 - s)) (sp w s r) (ep w s r) (nI o) ∧ CT m1 k1 (fun x => P x ∨ (x = (sp w (1 - s) o).toInt ∧ (sp w s r).toInt < x ∧ x < (ep w s r).toInt)) ∧ k1 ≤ k + 1 ∧ frM [7] [9] m m1 := by
      by_cases a : sp w s r + 1 ≤ sp w (1 - s) o ∧ sp w (1 - s) o ≤ ep w s r - 1
      · obtain ⟨m1, k1, e1, C1, l1, F1⟩ := M_cuts C (by omega) (sp w (1 - s) o)
        refine ⟨m1, k1, by simp only [if_pos a, if_neg one0, e1, Option.bind_some], ⟨C1.1, C1.2.1, C1.2.2.cg (fun x => or_congr Iff.rfl ⟨fun z => ⟨z, ?_⟩, fun z => z.1⟩)⟩, l1, F1⟩
        have := (in_op sl).mp a
        rw [Int32.lt_iff_toInt_lt, Int32.lt_iff_toInt_lt] at this
        rw [z]; exact this
      · refine ⟨m, k, by simp only [if_neg a, if_true], ⟨C.1, C.2.1, C.2.2.cg (fun x => ⟨Or.inl, ?_⟩)⟩, by omega, frM.rf⟩
        rintro (z | ⟨z1, z2⟩)
        · exact z
        · refine absurd ((in_op sl).mpr ?_) a
          rw [Int32.lt_iff_toInt_lt, Int32.lt_iff_toInt_lt, ← z1]; exact z2
    obtain ⟨m1, k1, e1, C1, l1, F1⟩ := st
    rw [e1]
    have hw1 : m1.1 1 = w := by rw [F1.1 1 (by decide) (by decide)]; exact hw
    unfold f_Mo_split_j115
    simp only [M_end (h := m1) hs1 (show o < 40 by omega) rfl rfl, hw1, M_isIn, Option.bind_some, nI_1]
    have fin : ∀ x, ((P x ∨ (x = (sp w (1 - s) o).toInt ∧ (sp w s r).toInt < x ∧ x < (ep w s r).toInt)) ∨ (x = (ep w (1 - s) o).toInt ∧ (sp w s r).toInt < x ∧ x < (ep w s r).toInt)) ↔ (P x ∨ (prt w s r o = true ∧ ins w s r o x)) := by
      intro x
      unfold ins
      constructor
      · rintro ((z | ⟨z1, z2⟩) | ⟨z1, z2⟩)
        · exact Or.inl z
        · exact Or.inr ⟨hp, Or.inl z1, z2⟩
        · exact Or.inr ⟨hp, Or.inr z1, z2⟩
      · rintro (z | ⟨-, z1 | z1, z2⟩)
        · exact Or.inl (Or.inl z)
        · exact Or.inl (Or.inr ⟨z1, z2⟩)
        · exact Or.inr ⟨z1, z2⟩
    by_cases a : sp w s r + 1 ≤ ep w (1 - s) o ∧ ep w (1 - s) o ≤ ep w s r - 1
    · obtain ⟨m2, k2, e2, C2, l2, F2⟩ := M_cuts C1 (by omega) (ep w (1 - s) o)
      refine ⟨m2, k2, by simp only [if_pos a, if_neg one0, e2, Option.bind_some], ⟨C2.1, C2.2.1, C2.2.2.cg (fun x => Iff.trans (or_congr Iff.rfl ⟨fun z => ⟨z, ?_⟩, fun z => z.1⟩) (fin x))⟩, by omega, F1.tr F2⟩
      have := (in_op sl).mp a
      rw [Int32.lt_iff_toInt_lt, Int32.lt_iff_toInt_lt] at this
      rw [z]; exact this
    · refine ⟨m1, k1, by simp only [if_neg a, if_true], ⟨C1.1, C1.2.1, C1.2.2.cg (fun x => Iff.trans ⟨Or.inl, ?_⟩ (fin x))⟩, by omega, F1⟩
      rintro (z | ⟨z1, z2⟩)
      · exact z
      · refine absurd ((in_op sl).mpr ?_) a
        rw [Int32.lt_iff_toInt_lt, Int32.lt_iff_toInt_lt, ← z1]; exact z2
  · refine ⟨m, k, by simp only [if_neg hp, if_true], ⟨C.1, C.2.1, C.2.2.cg (fun x => ⟨Or.inl, ?_⟩)⟩, by omega, frM.rf⟩
    rintro (z | z)
    · exact z
    · exact absurd z.1 hp
set_option maxHeartbeats 400000 in
theorem oth {s : Nat} (hs : s < 2) : (1 : Int32) - nI s = nI (1 - s) := by
  rcases (show s = 0 ∨ s = 1 by omega) with rfl | rfl <;> rfl
