def encO : Option Nat → Int32
  | none => -1
  | some j => nI j
set_option maxHeartbeats 400000 in
theorem nI_m1 {j : Nat} (h : j < 2 ^ 31) : ¬ nI j = -1 := by
  intro e
  have h1 := nI_toInt h
  rw [e] at h1
  have : (-1 : Int32).toInt = -1 := by decide
  omega
def ltst (w : Nat → Int32) (s r : Nat) (i : Nat) (b : Option Nat) : Option Nat := if (w 0 = 0 ∨ fld w s r 1 = fld w (1 - s) i 1) ∧ sp w (1 - s) i ≤ sp w s r then (match b with | none => some i | some j => if sp w (1 - s) i ≤ sp w (1 - s) j then some j else some i) else b
set_option maxHeartbeats 400000 in
theorem ltst_lt (w : Nat → Int32) (s r : Nat) : ∀ n j, fI (ltst w s r) n none = some j → j < n
  | 0, j, h => by simp [fI] at h
  | n + 1, j, h => by
    simp only [fI, ltst] at h
    have ih := ltst_lt w s r n
    split at h
    · cases hb : fI (ltst w s r) n none with
      | none => rw [hb] at h; simp only [Option.some.injEq] at h; omega
      | some k =>
        rw [hb] at h
        have := ih k hb
        simp only at h
        split at h <;> simp only [Option.some.injEq] at h <;> omega
    · have := ih j h; omega
set_option maxHeartbeats 400000 in
theorem X_latest1 {h : HP} {w : Nat → Int32} (V : SV h 1 w) {s r : Nat} (hs : s < 2) (hr : r < nS w s) : f_TJ_latest_l42 0 h (nI s) (nI r) (sp w s r) (rc 1 (1 - s)) (-1, 0) = some (encO (fI (ltst w s r) (nS w (1 - s)) none)) := by
  have V1 := V.rv (s := 1 - s) (by omega)
  have hn := V1.1
  unfold f_TJ_latest_l42
  refine loop_up (fun i => (encO (fI (ltst w s r) i none), nI i)) (nS w (1 - s)) (fun i hi => ?_) ?_
  · have hlt := ltst_lt w s r i
    unfold f_TJ_latest_b42 f_TJ_latest_j82
    simp only [Nat.zero_add, V1.2.1, if_neg (ngt hi hn), X_keysFit V hs hr hi, X_start V1 hi, Option.bind_some, nI_1, fI, ltst]
    by_cases a : w 0 = 0 ∨ fld w s r 1 = fld w (1 - s) i 1
    · by_cases b : sp w (1 - s) i ≤ sp w s r
      · have ab : (w 0 = 0 ∨ fld w s r 1 = fld w (1 - s) i 1) ∧ sp w (1 - s) i ≤ sp w s r := ⟨a, b⟩
        have nb : ¬ sp w s r < sp w (1 - s) i := Int32.not_lt.mpr b
        cases hb : fI (ltst w s r) i none with
        | none => simp only [if_pos a, if_neg one0, if_neg nb, if_pos ab, encO, if_true]
        | some j =>
          have hj := hlt j hb
          have hne : ¬ nI j = -1 := nI_m1 (by omega)
          simp only [if_pos a, if_neg one0, if_neg nb, if_pos ab, encO, if_neg hne, X_start V1 (show j < nS w (1 - s) by omega), Option.bind_some]
          split <;> rfl
      · have nb : sp w s r < sp w (1 - s) i := Int32.not_le.mp b
        have ab : ¬ ((w 0 = 0 ∨ fld w s r 1 = fld w (1 - s) i 1) ∧ sp w (1 - s) i ≤ sp w s r) := fun z => b z.2
        simp only [if_pos a, if_neg one0, if_pos nb, if_neg ab, if_true]
    · have ab : ¬ ((w 0 = 0 ∨ fld w s r 1 = fld w (1 - s) i 1) ∧ sp w (1 - s) i ≤ sp w s r) := fun z => a z.1
      simp only [if_neg a, if_neg ab, if_true]
  · unfold f_TJ_latest_b42
    simp only [V1.2.1, if_pos (nle _)]
    rfl
set_option maxHeartbeats 400000 in
theorem M_keyS {m : HP} {w : Nat → Int32} (hw : m.1 1 = w) {s r i : Nat} (hs : s < 2) (hr : r < 40) (hi : i < 40) : (if nI s = 0 then f_Mo_isKeyed 0 m (nI r) (nI i) else f_Mo_isKeyed 0 m (nI i) (nI r)) = some (if w 0 = 0 ∨ fld w s r 1 = fld w (1 - s) i 1 then 1 else 0) := by
  rcases (show s = 0 ∨ s = 1 by omega) with rfl | rfl
  · rw [if_pos (show nI 0 = 0 from rfl), M_keyed hr hi, hw]
  · rw [if_neg (show ¬ nI 1 = 0 by decide), M_keyed hi hr, hw]
    by_cases a : w 0 = 0 ∨ fld w 1 r 1 = fld w 0 i 1
    · rw [if_pos (a.imp id Eq.symm), if_pos a]
    · rw [if_neg (fun z => a (z.imp id Eq.symm)), if_neg a]
set_option maxHeartbeats 400000 in
theorem M_latest1 {m : HP} {w : Nat → Int32} (hw : m.1 1 = w) (R : RowsOk w) {s r : Nat} (hs : s < 2) (hr : r < nS w s) : f_Mo_latest_l21 0 m (nI s) (nI r) (nI (1 - s)) (-1, 0) = some (encO (fI (ltst w s r) (nS w (1 - s)) none)) := by
  have hn := (R (1 - s) (by omega)).2.1
  have hn2 := (R s hs).2.1
  have hs' : 1 - s < 2 := by omega
  unfold f_Mo_latest_l21
  refine loop_up (fun i => (encO (fI (ltst w s r) i none), nI i)) (nS w (1 - s)) (fun i hi => ?_) ?_
  · have hlt := ltst_lt w s r i
    have hk := M_keyS hw hs (show r < 40 by omega) (show i < 40 by omega)
    unfold f_Mo_latest_b21 f_Mo_latest_j61 f_Mo_latest_j82
    simp only [if_pos (many_ix hs' rfl).1, (many_ix hs' rfl).2, Nat.zero_add, hw, (R (1 - s) hs').1, if_neg (ngt hi hn), M_start (h := m) hs' (show i < 40 by omega) rfl rfl, M_start (h := m) hs (show r < 40 by omega) rfl rfl, Option.bind_some, nI_1, fI, ltst]
    have key : ∀ X : Int32 → Option ((Int32 × Int32) ⊕ Int32), (if nI s = 0 then (f_Mo_isKeyed 0 m (nI r) (nI i)).bind X else (f_Mo_isKeyed 0 m (nI i) (nI r)).bind X) = X (if w 0 = 0 ∨ fld w s r 1 = fld w (1 - s) i 1 then 1 else 0) := by
      intro X
      have : (if nI s = 0 then (f_Mo_isKeyed 0 m (nI r) (nI i)).bind X else (f_Mo_isKeyed 0 m (nI i) (nI r)).bind X) = (if nI s = 0 then f_Mo_isKeyed 0 m (nI r) (nI i) else f_Mo_isKeyed 0 m (nI i) (nI r)).bind X := by split <;> rfl
      rw [this, hk]; rfl
    rw [key]
    by_cases a : w 0 = 0 ∨ fld w s r 1 = fld w (1 - s) i 1
    · by_cases b : sp w (1 - s) i ≤ sp w s r
      · have ab : (w 0 = 0 ∨ fld w s r 1 = fld w (1 - s) i 1) ∧ sp w (1 - s) i ≤ sp w s r := ⟨a, b⟩
        have nb : ¬ sp w s r < sp w (1 - s) i := Int32.not_lt.mpr b
        cases hb : fI (ltst w s r) i none with
        | none => simp only [if_pos a, if_neg one0, if_neg nb, if_pos ab, encO, if_true]
        | some j =>
          have hj := hlt j hb
          have hne : ¬ nI j = -1 := nI_m1 (by omega)
          simp only [if_pos a, if_neg one0, if_neg nb, if_pos ab, encO, if_neg hne, M_start (h := m) hs' (show j < 40 by omega) rfl rfl, hw, Option.bind_some]
          split <;> rfl
      · have nb : sp w s r < sp w (1 - s) i := Int32.not_le.mp b
        have ab : ¬ ((w 0 = 0 ∨ fld w s r 1 = fld w (1 - s) i 1) ∧ sp w (1 - s) i ≤ sp w s r) := fun z => b z.2
        simp only [if_pos a, if_neg one0, if_pos nb, if_neg ab, if_true]
    · have ab : ¬ ((w 0 = 0 ∨ fld w s r 1 = fld w (1 - s) i 1) ∧ sp w (1 - s) i ≤ sp w s r) := fun z => a z.1
      simp only [if_neg a, if_neg ab, if_true]
  · unfold f_Mo_latest_b21
    simp only [if_pos (many_ix hs' rfl).1, (many_ix hs' rfl).2, Nat.zero_add, hw, (R (1 - s) hs').1, if_pos (nle _)]
    rfl
set_option maxHeartbeats 400000 in
theorem q_latest {h m : HP} {w : Nat → Int32} (Q : RQ h m w) (v1 v2 : Int32) : ∃ r, f_TJ_latest 0 h v1 v2 = some r ∧ f_Mo_latest 0 m v1 v2 = some r := by
  obtain ⟨hw, V, R, -⟩ := Q
  unfold f_TJ_latest f_Mo_latest
  rcases isRow_both hw V R v1 v2 with ⟨a, b⟩ | ⟨a, b, s, r, hs, hr, rfl, rfl⟩
  · rw [a, b]; exact ⟨_, rfl, rfl⟩
  · rw [a, b]
    simp only [Option.bind_some]
    rw [if_neg (by decide), if_neg (by decide), X_rowsOf (b := 0 + 1) hs rfl, X_rowsOf (b := 0 + 1) (s := 1 - s) (by omega) (one_sub hs), one_sub hs]
    simp only [Option.bind_some]
    rw [X_start (V.rv hs) hr]
    simp only [Option.bind_some]
    exact ⟨_, X_latest1 V hs hr, M_latest1 hw R hs hr⟩
def mpst (w : Nat → Int32) (s i : Nat) (x : Int32) : Int32 := if x < nI (cN (prt w s i) (nS w (1 - s))) then nI (cN (prt w s i) (nS w (1 - s))) else x
set_option maxHeartbeats 400000 in
theorem q_mostPartners {h m : HP} {w : Nat → Int32} (Q : RQ h m w) : ∃ r, f_TJ_mostPartners 0 h = some r ∧ f_Mo_mostPartners 0 m = some r := by
  obtain ⟨hw, V, R, -⟩ := Q
  refine ⟨fI (fun s x => fI (mpst w s) (nS w s) x) 2 0, ?_, ?_⟩
  · unfold f_TJ_mostPartners f_TJ_mostPartners_l4
    refine loop_for 2 (fun s x => fI (mpst w s) (nS w s) x) 0 _ (fun s x hs => ?_) ?_
    · have V1 := V.rv hs
      have hn := V1.1
      unfold f_TJ_mostPartners_b4 f_TJ_mostPartners_l24
      simp only [if_neg (show ¬ (2 : Int32) ≤ nI s from nI_ge (b := 2) hs (by decide)), X_rowsOf (b := 0 + 1) hs rfl, Option.bind_some]
      rw [show (0 + 1 : Nat) = 1 from rfl, V1.2.1]
      refine loop_for (nS w s) (mpst w s) x _ (fun i x hi => ?_) ?_
      · unfold f_TJ_mostPartners_b24
        simp only [Nat.zero_add, if_neg (ngt hi hn), X_countPartners V hs hi, Option.bind_some, nI_1, mpst]
      · unfold f_TJ_mostPartners_b24
        simp only [if_pos (nle _), nI_1]
        rfl
    · unfold f_TJ_mostPartners_b4
      simp only [if_pos (show (2 : Int32) ≤ nI 2 from nle 2)]
      rfl
  · unfold f_Mo_mostPartners f_Mo_mostPartners_l4
    refine loop_for 2 (fun s x => fI (mpst w s) (nS w s) x) 0 _ (fun s x hs => ?_) ?_
    · have hn := (R s hs).2.1
      unfold f_Mo_mostPartners_b4 f_Mo_mostPartners_l11
      simp only [if_neg (show ¬ (2 : Int32) ≤ nI s from nI_ge (b := 2) hs (by decide))]
      refine loop_for (nS w s) (mpst w s) x _ (fun i x hi => ?_) ?_
      · unfold f_Mo_mostPartners_b11
        simp only [if_pos (many_ix hs rfl).1, (many_ix hs rfl).2, Nat.zero_add, hw, (R s hs).1, if_neg (ngt hi hn), M_partners hw R hs hi, M_more, Option.bind_some, nI_1, mpst]
      · unfold f_Mo_mostPartners_b11
        simp only [if_pos (many_ix hs rfl).1, (many_ix hs rfl).2, Nat.zero_add, hw, (R s hs).1, if_pos (nle _), nI_1]
        rfl
    · unfold f_Mo_mostPartners_b4
      simp only [if_pos (show (2 : Int32) ≤ nI 2 from nle 2)]
      rfl
set_option maxHeartbeats 400000 in
theorem X_countInRun {h : HP} {cc : Nat} {w : Nat → Int32} {s n : Nat} (V : RV h cc w s n) (v : Int32) : f_Ro_countInRun cc h v = some (nI (cN (fun i => decide (fld w s i 0 = v)) n)) := by
  have hn := V.1
  rw [← cnst_cN]
  unfold f_Ro_countInRun f_Ro_countInRun_l4
  refine loop_for n (cnst (fun i => decide (fld w s i 0 = v))) 0 _ (fun i x hi => ?_) ?_
  · unfold f_Ro_countInRun_b4
    simp only [V.2.1, if_neg (ngt hi hn), if_pos (inb_nI (show i < 40 by omega) (show 40 < 2 ^ 31 by omega)), ix_nI (show i < 2 ^ 31 by omega), (V.2.2 i hi).1, nI_1, cnst, decide_eq_true_eq]
    split <;> rfl
  · unfold f_Ro_countInRun_b4
    simp only [V.2.1, if_pos (nle _)]
    rfl
def rnB (w : Nat → Int32) (s k : Nat) : Bool := decide (0 < cN (fun i => decide (fld w s i 0 = nI k)) (nS w s))
set_option maxHeartbeats 400000 in
theorem X_countRuns {h : HP} {cc : Nat} {w : Nat → Int32} {s : Nat} (V : RV h cc w s (nS w s)) : f_Ro_countRuns cc h = some (nI (cN (rnB w s) 4)) := by
  have hn := V.1
  rw [← cnst_cN]
  unfold f_Ro_countRuns f_Ro_countRuns_l4
  refine loop_for 4 (cnst (rnB w s)) 0 _ (fun k x hk => ?_) ?_
  · have hc := cN_le (fun i => decide (fld w s i 0 = nI k)) (nS w s)
    unfold f_Ro_countRuns_b4
    simp only [if_neg (show ¬ (4 : Int32) ≤ nI k from nI_ge (b := 4) hk (by decide)), X_countInRun V, Option.bind_some, nI_1, cnst, rnB, decide_eq_true_eq]
    by_cases h0 : 0 < cN (fun i => decide (fld w s i 0 = nI k)) (nS w s)
    · rw [if_neg (nI_nle h0 (by omega)), if_pos h0]
    · rw [if_pos (by rw [show cN (fun i => decide (fld w s i 0 = nI k)) (nS w s) = 0 by omega]; decide), if_neg h0]
  · unfold f_Ro_countRuns_b4
    simp only [if_pos (show (4 : Int32) ≤ nI 4 from nle 4)]
    rfl
def flg (b : Bool) : Int32 := if b then 1 else 0
set_option maxHeartbeats 400000 in
theorem M_runs {m : HP} {w : Nat → Int32} (hw : m.1 1 = w) (R : RowsOk w) {s : Nat} (hs : s < 2) {v1 : Int32} (e1 : v1 = nI s) : f_Mo_runs 0 m v1 = some (nI (cN (rnB w s) 4)) := by
  have hn := (R s hs).2.1
  rw [← cnst_cN]
  unfold f_Mo_runs f_Mo_runs_l4
  refine loop_for 4 (cnst (rnB w s)) 0 _ (fun k x hk => ?_) ?_
  · unfold f_Mo_runs_b4 f_Mo_runs_l15
    simp only [if_neg (show ¬ (4 : Int32) ≤ nI k from nI_ge (b := 4) hk (by decide))]
    refine loop_up (fun i => (flg (decide (0 < cN (fun i => decide (fld w s i 0 = nI k)) i)), nI i)) (nS w s) (fun i hi => ?_) ?_
    · unfold f_Mo_runs_b15
      simp only [if_pos (many_ix hs e1).1, (many_ix hs e1).2, Nat.zero_add, hw, (R s hs).1, if_neg (ngt hi hn), M_of (h := m) hs (show i < 40 by omega) (k := 0) (v3 := 0) (by omega) e1 rfl rfl, Option.bind_some, nI_1, flg, cN, decide_eq_true_eq]
      by_cases a : 0 < cN (fun i => decide (fld w s i 0 = nI k)) i
      · rw [if_pos a, if_neg (by decide), if_pos (show 0 < cN (fun i => decide (fld w s i 0 = nI k)) i + _ by omega)]
      · rw [if_neg a, if_pos rfl]
        by_cases b : fld w s i 0 = nI k
        · rw [if_pos b, if_pos b, if_pos (by omega)]
        · rw [if_neg b, if_neg b, if_neg (by omega)]
    · unfold f_Mo_runs_b15
      simp only [if_pos (many_ix hs e1).1, (many_ix hs e1).2, Nat.zero_add, hw, (R s hs).1, if_pos (nle _), nI_1, flg, cnst, rnB, Int32.add_zero, decide_eq_true_eq]
      by_cases a : 0 < cN (fun i => decide (fld w s i 0 = nI k)) (nS w s)
      · rw [if_pos a, if_neg (by decide), if_pos a]; rfl
      · rw [if_neg a, if_pos rfl, if_neg a]; rfl
  · unfold f_Mo_runs_b4
    simp only [if_pos (show (4 : Int32) ≤ nI 4 from nle 4)]
    rfl
