def kst (w : Nat → Int32) (v1 : Int32) (l : Nat) (i : Nat) (x : Int32) : Int32 := if (w 0 = 0 ∨ fld w 0 l 1 = fld w 1 i 1) ∧ kK (sp w 0 l) (ep w 0 l) (sp w 1 i) (ep w 1 i) = v1 then x + 1 else x
set_option maxHeartbeats 400000 in
theorem q_kinds {h m : HP} {w : Nat → Int32} (Q : RQ h m w) (v1 : Int32) : ∃ r, f_TJ_kinds 0 h v1 = some r ∧ f_Mo_kinds 0 m v1 = some r := by
  obtain ⟨hw, V, R, -⟩ := Q
  have n0 := (R 0 (by omega)).2.1
  have n1 := (R 1 (by omega)).2.1
  have X1 : ∀ l, l < nS w 0 → ∀ x, f_TJ_kinds_l33 0 h v1 (nI l) (x, 0) = some (.inl (fI (kst w v1 l) (nS w 1) x, nI (l + 1))) := by
    intro l hl x
    unfold f_TJ_kinds_l33
    refine loop_for (nS w 1) (kst w v1 l) x _ (fun i x hi => ?_) ?_
    · unfold f_TJ_kinds_b33
      have e1 := X_keysFit V (s := 0) (by omega) hl hi
      have e2 := X_kindOf (s := 0) (v1 := 0) (s2 := 1) (v3 := 1) V (by omega) hl (by omega) hi rfl rfl
      rw [show nI 0 = 0 from rfl] at e1
      simp only [Nat.zero_add, show (1 + 7 : Nat) = 8 from rfl]
      simp only [V.2.2.2.2.1, if_neg (ngt hi n1), e1, e2, Option.bind_some, nI_1, kst, Nat.sub_zero]
      by_cases a : w 0 = 0 ∨ fld w 0 l 1 = fld w 1 i 1
      · rw [if_pos a, if_neg (by decide)]
        by_cases b : kK (sp w 0 l) (ep w 0 l) (sp w 1 i) (ep w 1 i) = v1
        · rw [if_pos b, if_pos ⟨a, b⟩]
        · rw [if_neg b, if_neg (fun z => b z.2)]
      · rw [if_neg a, if_pos rfl, if_neg (fun z => a z.1)]
    · unfold f_TJ_kinds_b33
      simp only [Nat.zero_add, show (1 + 7 : Nat) = 8 from rfl]
      simp only [V.2.2.2.2.1, if_pos (nle _), nI_1]
      rfl
  have M1 : ∀ l, l < nS w 0 → ∀ x, f_Mo_kinds_l29 0 m v1 (nI l) (x, 0) = some (.inl (fI (kst w v1 l) (nS w 1) x, nI (l + 1))) := by
    intro l hl x
    unfold f_Mo_kinds_l29
    refine loop_for (nS w 1) (kst w v1 l) x _ (fun i x hi => ?_) ?_
    · unfold f_Mo_kinds_b29
      have e2 := M_kindB (h := m) (s := 0) (v1 := 0) (s2 := 1) (v3 := 1) (r := l) (r2 := i) (by omega) (by omega) (by omega) (by omega) rfl rfl rfl rfl
      have e3 := (R 1 (by omega)).1
      simp only [Nat.zero_add, show ix 3 = 3 by decide]
      simp only [hw, show w 3 = nI (nS w 1) from e3, if_neg (ngt hi n1), M_keyed (show l < 40 by omega) (show i < 40 by omega), e2, Option.bind_some, nI_1, Int32.add_zero, kst]
      by_cases a : w 0 = 0 ∨ fld w 0 l 1 = fld w 1 i 1
      · rw [if_pos a, if_neg (by decide)]
        by_cases b : kK (sp w 0 l) (ep w 0 l) (sp w 1 i) (ep w 1 i) = v1
        · rw [if_pos b, if_pos ⟨a, b⟩]
        · rw [if_neg b, if_neg (fun z => b z.2)]
      · rw [if_neg a, if_pos rfl, if_neg (fun z => a z.1)]
    · unfold f_Mo_kinds_b29
      have e3 := (R 1 (by omega)).1
      simp only [Nat.zero_add, show ix 3 = 3 by decide]
      simp only [hw, show w 3 = nI (nS w 1) from e3, if_pos (nle _), nI_1]
      rfl
  unfold f_TJ_kinds f_Mo_kinds
  rw [M_isIn]
  simp only [Option.bind_some]
  have kX : f_TJ_kinds_l16 0 h v1 (0, 0) = some (fI (fun l x => fI (kst w v1 l) (nS w 1) x) (nS w 0) 0) := by
    unfold f_TJ_kinds_l16
    refine loop_for (nS w 0) (fun l x => fI (kst w v1 l) (nS w 1) x) 0 _ (fun i x hi => ?_) ?_
    · unfold f_TJ_kinds_b16
      simp only [Nat.zero_add, show (1 + 1 : Nat) = 2 from rfl]
      simp only [V.2.2.1.2.1, if_neg (ngt hi n0)]
      exact X1 i hi x
    · unfold f_TJ_kinds_b16
      simp only [Nat.zero_add, show (1 + 1 : Nat) = 2 from rfl]
      simp only [V.2.2.1.2.1, if_pos (nle _)]
      rfl
  have kM : f_Mo_kinds_l16 0 m v1 (0, 0) = some (fI (fun l x => fI (kst w v1 l) (nS w 1) x) (nS w 0) 0) := by
    unfold f_Mo_kinds_l16
    have e3 := (R 0 (by omega)).1
    refine loop_for (nS w 0) (fun l x => fI (kst w v1 l) (nS w 1) x) 0 _ (fun i x hi => ?_) ?_
    · unfold f_Mo_kinds_b16
      simp only [Nat.zero_add, show ix 2 = 2 by decide]
      simp only [hw, show w 2 = nI (nS w 0) from e3, if_neg (ngt hi n0)]
      exact M1 i hi x
    · unfold f_Mo_kinds_b16
      simp only [Nat.zero_add, show ix 2 = 2 by decide]
      simp only [hw, show w 2 = nI (nS w 0) from e3, if_pos (nle _)]
      rfl
  rw [kX, kM]
  generalize fI (fun l x => fI (kst w v1 l) (nS w 1) x) (nS w 0) 0 = z
  clear kX kM X1 M1 n0 n1 R V hw
  refine two ?_ ?_ <;> grind
def shst (w : Nat → Int32) (l i : Nat) (x : Int64) : Int64 := x + (if part w l i then (shL w l i).toInt64 else 0)
set_option maxHeartbeats 400000 in
theorem shst_add (w : Nat → Int32) (l : Nat) (a : Int64) : ∀ n, fI (shst w l) n a = a + fI (shst w l) n 0
  | 0 => by simp [fI]
  | n + 1 => by simp only [fI, shst, shst_add w l a n]; rw [Int64.add_assoc]
def shF (w : Nat → Int32) (k : Int32) (l : Nat) (x : Int64) : Int64 := if k = -1 ∨ fld w 0 l 1 = k then fI (shst w l) (nS w 1) x else x
set_option maxHeartbeats 400000 in
theorem q_shared {h m : HP} {w : Nat → Int32} (Q : RQ h m w) (v1 : Int32) : ∃ r, f_TJ_shared 0 h v1 = some r ∧ f_Mo_shared 0 m v1 = some r := by
  obtain ⟨hw, V, R, -⟩ := Q
  have n0 := (R 0 (by omega)).2.1
  have n1 := (R 1 (by omega)).2.1
  have X1 : ∀ l, l < nS w 0 → f_TJ_sharedBy 0 h (nI l) = some (fI (shst w l) (nS w 1) 0) := by
    intro l hl
    unfold f_TJ_sharedBy f_TJ_sharedBy_l5
    refine loop_for (nS w 1) (shst w l) 0 _ (fun i x hi => ?_) ?_
    · unfold f_TJ_sharedBy_b5
      have e1 := X_prt V (s := 0) (by omega) hl hi
      rw [show nI 0 = 0 from rfl, show prt w 0 l i = part w l i from rfl] at e1
      simp only [Nat.zero_add, show (1 + 7 : Nat) = 8 from rfl]
      simp only [V.2.2.2.2.1, if_neg (ngt hi n1), e1, X_sharedLong V hl hi, Option.bind_some, nI_1, shst]
      cases part w l i <;> simp
    · unfold f_TJ_sharedBy_b5
      simp only [Nat.zero_add, show (1 + 7 : Nat) = 8 from rfl]
      simp only [V.2.2.2.2.1, if_pos (nle _)]
      rfl
  have M1 : ∀ l, l < nS w 0 → ∀ x, f_Mo_shared_l55 0 m v1 (nI l) (x, 0) = some (.inl (fI (shst w l) (nS w 1) x, nI (l + 1))) := by
    intro l hl x
    unfold f_Mo_shared_l55
    refine loop_for (nS w 1) (shst w l) x _ (fun i x hi => ?_) ?_
    · unfold f_Mo_shared_b55
      have e3 := (R 1 (by omega)).1
      simp only [Nat.zero_add, show ix 3 = 3 by decide]
      simp only [hw, show w 3 = nI (nS w 1) from e3, if_neg (ngt hi n1), M_part (show l < 40 by omega) (show i < 40 by omega), M_sharedLong (show l < 40 by omega) (show i < 40 by omega), Option.bind_some, nI_1, shst]
      cases hp : part w l i <;> simp
    · unfold f_Mo_shared_b55
      have e3 := (R 1 (by omega)).1
      simp only [Nat.zero_add, show ix 3 = 3 by decide]
      simp only [hw, show w 3 = nI (nS w 1) from e3, if_pos (nle _), nI_1]
      rfl
  have kX : f_TJ_shared_l21 0 h v1 (0, 0) = some (fI (shF w v1) (nS w 0) 0) := by
    unfold f_TJ_shared_l21
    refine loop_for (nS w 0) (shF w v1) 0 _ (fun i x hi => ?_) ?_
    · unfold f_TJ_shared_b21 f_TJ_shared_j58
      have hi' : inb (nI i) 40 := inb_nI (by omega) (by omega)
      simp only [Nat.zero_add, show (1 + 1 : Nat) = 2 from rfl, show (2 + 2 : Nat) = 4 from rfl]
      simp only [V.2.2.1.2.1, if_neg (ngt hi n0), X1 i hi, if_pos hi', ix_nI (show i < 2 ^ 31 by omega), show h.1 4 i = fld w 0 i 1 from (V.2.2.1.2.2 i hi).2.1, Option.bind_some, nI_1, shF]
      rw [shst_add w i x]
      by_cases a : v1 = -1
      · rw [if_pos a, if_pos (Or.inl a)]
      · rw [if_neg a]
        by_cases b : fld w 0 i 1 = v1
        · rw [if_pos b, if_pos (Or.inr b)]
        · rw [if_neg b, if_neg (fun z => z.elim a b)]
    · unfold f_TJ_shared_b21
      simp only [Nat.zero_add, show (1 + 1 : Nat) = 2 from rfl]
      simp only [V.2.2.1.2.1, if_pos (nle _)]
      rfl
  have kM : f_Mo_shared_l21 0 m v1 (0, 0) = some (fI (shF w v1) (nS w 0) 0) := by
    unfold f_Mo_shared_l21
    have e3 := (R 0 (by omega)).1
    refine loop_for (nS w 0) (shF w v1) 0 _ (fun i x hi => ?_) ?_
    · unfold f_Mo_shared_b21
      simp only [Nat.zero_add, show ix 2 = 2 by decide]
      simp only [hw, show w 2 = nI (nS w 0) from e3, if_neg (ngt hi n0), M1 i hi, M_of (h := m) (s := 0) (v1 := 0) (by omega) (show i < 40 by omega) (k := 1) (v3 := 1) (by omega) rfl rfl rfl, Option.bind_some, nI_1, shF]
      by_cases a : v1 = -1
      · rw [if_pos a, if_pos (Or.inl a)]
      · rw [if_neg a]
        by_cases b : fld w 0 i 1 = v1
        · rw [if_pos b, if_pos (Or.inr b)]
        · rw [if_neg b, if_neg (fun z => z.elim a b)]
    · unfold f_Mo_shared_b21
      simp only [Nat.zero_add, show ix 2 = 2 by decide]
      simp only [hw, show w 2 = nI (nS w 0) from e3, if_pos (nle _)]
      rfl
  unfold f_TJ_shared f_Mo_shared
  rw [X_isKey, M_isKey, kX, kM]
  simp only [Option.bind_some]
  generalize fI (shF w v1) (nS w 0) 0 = z
  clear kX kM X1 M1 n0 n1 R V hw
  refine two ?_ ?_ <;> grind
