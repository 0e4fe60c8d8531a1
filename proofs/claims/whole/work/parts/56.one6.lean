/-! one: alike -/
set_option maxHeartbeats 400000 in
theorem in_iff {v : Int32} {n : Nat} (hn : n < 2 ^ 31) : (0 ≤ v ∧ v ≤ nI n - 1) ↔ ∃ i, i < n ∧ v = nI i := by
  constructor
  · rintro ⟨h1, h2⟩
    obtain ⟨j, hj, rfl⟩ := nI_of (x := v) (Int32.not_lt.mpr h1)
    refine ⟨j, ?_, rfl⟩
    rcases Nat.eq_zero_or_pos n with h0 | h0
    · rw [h0, show (nI 0 - 1 : Int32) = -1 by decide] at h2
      exact absurd (Int32.le_trans h1 h2) (by decide)
    · rw [show nI n - 1 = nI (n - 1) from pk_sub (b := 1) (by omega)] at h2
      rcases Nat.lt_or_ge j n with z | z
      · exact z
      · exact absurd h2 (nI_ge (by omega) hj)
  · rintro ⟨i, hi, rfl⟩
    refine ⟨nI_pos' (by omega), ?_⟩
    rw [show nI n - 1 = nI (n - 1) from pk_sub (b := 1) (by omega)]
    exact nI_le (by omega) (by omega)
section OQ
variable {h m : HP} {w : Nat → Int32} {s : Nat} {F : Nat → Nat} {np : Nat} {op : Nat → Nat} {re : Nat → Int32} {ct g : Nat → Nat}
set_option maxHeartbeats 400000 in
theorem M_ones33 (hw : m.1 1 = w) (R : RowsOk w) (hs : s < 2) (W : FW w s (nS w s) F) (V : FV m F (nS w s)) (O : OC h w s F (fun _ => true) np op re ct g) {j : Nat} (hj : j < np) (v2 : Int32) : f_Mo_ones_l33 0 m (nI s) v2 (nI (rho F op j)) (0, 0) = some (if nI j = v2 then Sum.inr (nI (rho F op j)) else Sum.inl (nI (rho F op j + 1))) := by
  have hN := (R s hs).2.1
  obtain ⟨r1, r2⟩ := OC_rho R hs W O
  have rk := OC_rank R hs W O hj
  obtain ⟨a1, a2, a3, -, -⟩ := r1 j hj
  unfold f_Mo_ones_l33
  refine loop_for (nS w s) (fun b (v : Int32) => if (decide (F b = b) && (decide (b ≠ rho F op j) && decide (g b < j))) then v + 1 else v + 0) 0 _ (fun b x hb => ?_) ?_
  · show f_Mo_ones_b33 0 m (nI s) v2 (nI (rho F op j)) x (nI b) = _
    have f1 := W.1.1 b hb
    unfold f_Mo_ones_b33
    rw [if_pos (many_ix hs rfl).1, (many_ix hs rfl).2, Nat.zero_add, Nat.zero_add, hw, (R s hs).1, if_neg (ngt hb hN), if_pos (inb_nI (show b < 40 by omega) (by decide)), ix_nI (by omega), V b hb, nI_1]
    by_cases z : F b = b
    · rw [if_pos (by rw [z]), decide_eq_true z, Bool.true_and]
      by_cases y : b = rho F op j
      · rw [if_pos (by rw [y]), decide_eq_false (fun u => u y), Bool.false_and]; rfl
      · have gb := r2 b hb
        have eb : b = rho F op (g b) := by rw [← gb.2, z]
        have gne : g b ≠ j := fun e => y (by rw [eb, e])
        have ah := M_ahead hw R hs W V O hj gb.1 gne
        rw [← eb] at ah
        rw [if_neg (fun e => y ((nI_eq (by omega) (by omega)).mp e)), ah, decide_eq_true y, Bool.true_and]
        simp only [Option.bind_some, decide_eq_true_eq]
        by_cases u : g b < j
        · rw [if_pos u, if_pos u, if_neg one0]
        · rw [if_neg u, if_neg u, if_pos rfl]
    · rw [if_neg (fun e => z ((nI_eq (by omega) (by omega)).mp e)), decide_eq_false z, Bool.false_and]; rfl
  · show f_Mo_ones_b33 0 m (nI s) v2 (nI (rho F op j)) (fI (fun b (v : Int32) => if (decide (F b = b) && (decide (b ≠ rho F op j) && decide (g b < j))) then v + 1 else v + 0) (nS w s) 0) (nI (nS w s)) = _
    rw [cnI, rk]
    unfold f_Mo_ones_b33
    rw [if_pos (many_ix hs rfl).1, (many_ix hs rfl).2, Nat.zero_add, hw, (R s hs).1, if_pos (nle _), nI_1]
    split <;> rfl
set_option maxHeartbeats 400000 in
theorem M_ones (hw : m.1 1 = w) (R : RowsOk w) (hs : s < 2) (W : FW w s (nS w s) F) (V : FV m F (nS w s)) (O : OC h w s F (fun _ => true) np op re ct g) {i : Nat} (hi : i < np) : f_Mo_ones 0 m (nI s) (nI i) = some (nI (rho F op i)) := by
  have hN := (R s hs).2.1
  have hnp := Nat.le_trans O.2.2.1 (cN_le _ _)
  obtain ⟨r1, r2⟩ := OC_rho R hs W O
  obtain ⟨a1, a2, a3, -, -⟩ := r1 i hi
  unfold f_Mo_ones f_Mo_ones_l2
  rw [loop_find (nS w s) (fun a => decide (F a = a) && decide (g a = i)) (-1) (fun a => nI a) (fun a ha => ?_) ?_]
  · cases hf : fstN (fun a => decide (F a = a) && decide (g a = i)) (nS w s) with
    | some a =>
      obtain ⟨h1, h2, -⟩ := fstN_some hf
      simp only [Bool.and_eq_true, decide_eq_true_eq] at h2
      have := (r2 a h1).2
      rw [h2.1, h2.2] at this
      show some (nI a) = _
      rw [this]
    | none =>
      have := fstN_no hf _ a1
      rw [decide_eq_true a3, decide_eq_true a2] at this
      cases this
  · show f_Mo_ones_b2 0 m (nI s) (nI i) (nI (nS w s)) = _
    unfold f_Mo_ones_b2
    rw [if_pos (many_ix hs rfl).1, (many_ix hs rfl).2, Nat.zero_add, hw, (R s hs).1, if_pos (nle _)]
    rfl
  · show f_Mo_ones_b2 0 m (nI s) (nI i) (nI a) = _
    have f1 := W.1.1 a ha
    unfold f_Mo_ones_b2
    rw [if_pos (many_ix hs rfl).1, (many_ix hs rfl).2, Nat.zero_add, Nat.zero_add, hw, (R s hs).1, if_neg (ngt ha hN), if_pos (inb_nI (show a < 40 by omega) (by decide)), ix_nI (by omega), V a ha, nI_1]
    by_cases z : F a = a
    · have ga := r2 a ha
      have ea : a = rho F op (g a) := by rw [← ga.2, z]
      have st := M_ones33 hw R hs W V O ga.1 (nI i)
      rw [← ea] at st
      rw [if_pos (by rw [z]), st, decide_eq_true z, Bool.true_and]
      simp only [decide_eq_true_eq]
      by_cases y : g a = i
      · rw [if_pos (by rw [y]), if_pos y]
      · rw [if_neg (fun e => y ((nI_eq (by omega) (by omega)).mp e)), if_neg y]
    · rw [if_neg (fun e => z ((nI_eq (by omega) (by omega)).mp e)), decide_eq_false z, Bool.false_and]; rfl
set_option maxHeartbeats 400000 in
theorem M_one99 (hw : m.1 1 = w) (R : RowsOk w) (hs : s < 2) (W : FW w s (nS w s) F) (V : FV m F (nS w s)) (O : OC h w s F (fun _ => true) np op re ct g) {i : Nat} (hi : i < np) (v3 : Int32) : f_Mo_one_l99 0 m (nI s) v3 (nI (rho F op i)) (0, 0) = some (m, if v3 = 0 then fld w s (op i) 1 else if v3 = 1 then sp w s (op i) >>> (1 &&& 31) else if v3 = 2 then re i >>> (1 &&& 31) else if v3 = 3 then fld w s (op i) 4 else if v3 = 4 then nI (ct i) else -10000000) := by
  have hN := (R s hs).2.1
  obtain ⟨r1, r2⟩ := OC_rho R hs W O
  obtain ⟨a1, a2, a3, a4, a5⟩ := r1 i hi
  have cnt : cN (fun o => decide (F o = rho F op i)) (nS w s) = ct i := by
    rw [(O.2.2.2.2.1 i hi).2.2.2.2]
    refine cN_congr _ (fun o ho => ?_)
    rw [Bool.true_and]
    refine decide_eq_decide.mpr ⟨fun e => ?_, fun e => ?_⟩
    · have := r2 o ho
      rw [← (r1 (g o) this.1).2.1, ← this.2, e, a2]
    · rw [(r2 o ho).2, e]
  unfold f_Mo_one_l99
  refine loop_for (nS w s) (fun b (v : Int32) => if decide (F b = rho F op i) then v + 1 else v + 0) 0 _ (fun b x hb => ?_) ?_
  · show f_Mo_one_b99 0 m (nI s) v3 (nI (rho F op i)) x (nI b) = _
    have f1 := W.1.1 b hb
    unfold f_Mo_one_b99
    rw [if_pos (many_ix hs rfl).1, (many_ix hs rfl).2, Nat.zero_add, Nat.zero_add, hw, (R s hs).1, if_neg (ngt hb hN), if_pos (inb_nI (show b < 40 by omega) (by decide)), ix_nI (by omega), V b hb, nI_1]
    by_cases z : F b = rho F op i
    · rw [if_pos (by rw [z]), decide_eq_true z]; rfl
    · rw [if_neg (fun e => z ((nI_eq (by omega) (by omega)).mp e)), decide_eq_false z]; rfl
  · show f_Mo_one_b99 0 m (nI s) v3 (nI (rho F op i)) (fI (fun b (v : Int32) => if decide (F b = rho F op i) then v + 1 else v + 0) (nS w s) 0) (nI (nS w s)) = _
    rw [cnI, cnt]
    unfold f_Mo_one_b99
    rw [if_pos (many_ix hs rfl).1, (many_ix hs rfl).2, Nat.zero_add, hw, (R s hs).1, if_pos (nle _), M_least hw R hs W V O hi, M_greatest hw R hs W V O hi, M_of (h := m) hs (show rho F op i < 40 by omega) (k := 1) (v3 := 1) (by omega) rfl rfl rfl, M_of (h := m) hs (show rho F op i < 40 by omega) (k := 4) (v3 := 4) (by omega) rfl rfl rfl, hw, a4, a5]
    simp only [Option.bind_some, M_time]
    split
    · rfl
    · split
      · rfl
      · split
        · rfl
        · split
          · rfl
          · split <;> rfl
set_option maxHeartbeats 400000 in
theorem M_one21 (hw : m.1 1 = w) (R : RowsOk w) (hs : s < 2) (W : FW w s (nS w s) F) (V : FV m F (nS w s)) (O : OC h w s F (fun _ => true) np op re ct g) (v2 v3 : Int32) {r : Int32} (hr : (v2 = -1 ∧ r = nI np) ∨ (v2 ≠ -1 ∧ (∀ i, i < np → v2 ≠ nI i) ∧ r = -10000000) ∨ ∃ i, i < np ∧ v2 = nI i ∧ r = if v3 = 0 then fld w s (op i) 1 else if v3 = 1 then sp w s (op i) >>> (1 &&& 31) else if v3 = 2 then re i >>> (1 &&& 31) else if v3 = 3 then fld w s (op i) 4 else if v3 = 4 then nI (ct i) else -10000000) : f_Mo_one_l21 0 m (nI s) v2 v3 (0, 0) = some (m, r) := by
  have hN := (R s hs).2.1
  have hnp := Nat.le_trans O.2.2.1 (cN_le _ _)
  unfold f_Mo_one_l21
  refine loop_for (nS w s) (fun b (v : Int32) => if decide (F b = b) then v + 1 else v + 0) 0 _ (fun b x hb => ?_) ?_
  · show f_Mo_one_b21 0 m (nI s) v2 v3 x (nI b) = _
    have f1 := W.1.1 b hb
    unfold f_Mo_one_b21
    rw [if_pos (many_ix hs rfl).1, (many_ix hs rfl).2, Nat.zero_add, Nat.zero_add, hw, (R s hs).1, if_neg (ngt hb hN), if_pos (inb_nI (show b < 40 by omega) (by decide)), ix_nI (by omega), V b hb, nI_1]
    by_cases z : F b = b
    · rw [if_pos (by rw [z]), decide_eq_true z]; rfl
    · rw [if_neg (fun e => z ((nI_eq (by omega) (by omega)).mp e)), decide_eq_false z]; rfl
  · show f_Mo_one_b21 0 m (nI s) v2 v3 (fI (fun b (v : Int32) => if decide (F b = b) then v + 1 else v + 0) (nS w s) 0) (nI (nS w s)) = _
    rw [cnI, OC_many R hs W O]
    unfold f_Mo_one_b21
    rw [if_pos (many_ix hs rfl).1, (many_ix hs rfl).2, Nat.zero_add, hw, (R s hs).1, if_pos (nle _), M_isIn]
    simp only [Option.bind_some]
    rcases hr with ⟨e1, e2⟩ | ⟨e1, e2, e3⟩ | ⟨i, hi, e1, e2⟩
    · rw [if_pos e1, e2]; rfl
    · have no : ¬ (0 ≤ v2 ∧ v2 ≤ nI np - 1) := fun z => by
        obtain ⟨i, hi, e⟩ := (in_iff (by omega)).mp z
        exact e2 i hi e
      rw [if_neg e1, if_neg no, if_pos rfl, e3]; rfl
    · rw [if_neg (by rw [e1]; exact nI_m1 (by omega)), if_pos ((in_iff (by omega)).mpr ⟨i, hi, e1⟩), if_neg one0, e1, M_ones hw R hs W V O hi]
      simp only [Option.bind_some]
      rw [M_one99 hw R hs W V O hi, e2]
      rfl
end OQ
set_option maxHeartbeats 400000 in
theorem q_one {h m : HP} {w : Nat → Int32} (Q : RQ h m w) (v1 v2 v3 : Int32) : Alike2 h m (f_TJ_one 0 h v1 v2 v3) (f_Mo_one 0 m v1 v2 v3) := by
  obtain ⟨hw, V, R, -, hW⟩ := Q
  unfold f_TJ_one f_Mo_one
  rw [X_isSide, M_isSide]
  simp only [Option.bind_some]
  by_cases hv : v1 = 0 ∨ v1 = 1
  · obtain ⟨s, hs, rfl⟩ := side_in hv
    simp only [if_pos hv, if_neg one0]
    obtain ⟨m', F, em, Vm, W, Fm⟩ := M_makesOne hw R hs
    have hwm : m'.1 1 = w := by rw [Fm.1 1 (by decide) (by decide)]; exact hw
    have kM := Fm.kM (by decide) (by decide) (by decide) (by decide) (by decide)
    rw [em]
    simp only [Option.bind_some]
    obtain ⟨h1, e1, P1, F1⟩ := X_pempty h (ocF w s id (fun _ => 0) id)
    rw [show f_Pa_empty (0 + 34) h = some h1 from e1]
    simp only [Option.bind_some]
    rw [X_rowsOf (b := 0 + 1) hs rfl]
    simp only [Option.bind_some]
    have key := X_one30 (V.fr F1 (by decide)) R hs W.2 P1 v2 v3 (fun t => keepX h t.1 ∧ f_Mo_one_l21 0 m' (nI s) v2 v3 (0, 0) = some (m', t.2)) (fun h' np op re ct g Fr O => ?_)
    · obtain ⟨⟨h', r⟩, et, kx, e'⟩ := key
      exact ⟨h', m', r, et, e', kx, kM⟩
    · have kX : keepX h h' := fun a ha => by rw [Fr a (by simp; omega), F1 a (by simp; omega)]
      have hnp := Nat.le_trans O.2.2.1 (cN_le _ _)
      have hN := (R s hs).2.1
      by_cases z : v2 = -1
      · rw [if_pos z, O.1.2.1]
        exact ⟨_, rfl, kX, M_one21 hwm R hs W Vm O v2 v3 (Or.inl ⟨z, rfl⟩)⟩
      · rw [if_neg z]
        rcases X_pans O.1 v2 v3 (c := 5) (by omega) (vc := 5) rfl with ⟨k, j, hk, hj, ek, ej, e⟩ | ⟨no, e⟩
        · rw [e]
          refine ⟨_, rfl, kX, M_one21 hwm R hs W Vm O v2 v3 (Or.inr (Or.inr ⟨k, hk, ek, ?_⟩))⟩
          rw [ej]
          unfold ocF
          rcases (show j = 0 ∨ j = 1 ∨ j = 2 ∨ j = 3 ∨ j = 4 by omega) with y | y | y | y | y <;> subst y
          · rw [if_pos (show nI 0 = 0 from rfl), cel_0]
          · rw [if_neg (show ¬ nI 1 = 0 by decide), if_pos (show nI 1 = 1 from rfl), cel_1]
          · rw [if_neg (show ¬ nI 2 = 0 by decide), if_neg (show ¬ nI 2 = 1 by decide), if_pos (show nI 2 = 2 from rfl), cel_2]
          · rw [if_neg (show ¬ nI 3 = 0 by decide), if_neg (show ¬ nI 3 = 1 by decide), if_neg (show ¬ nI 3 = 2 by decide), if_pos (show nI 3 = 3 from rfl), cel_3]
          · rw [if_neg (show ¬ nI 4 = 0 by decide), if_neg (show ¬ nI 4 = 1 by decide), if_neg (show ¬ nI 4 = 2 by decide), if_neg (show ¬ nI 4 = 3 by decide), if_pos (show nI 4 = 4 from rfl), cel_4]
        · rw [e]
          refine ⟨_, rfl, kX, M_one21 hwm R hs W Vm O v2 v3 ?_⟩
          by_cases y : ∃ i, i < np ∧ v2 = nI i
          · obtain ⟨i, hi, ei⟩ := y
            refine Or.inr (Or.inr ⟨i, hi, ei, ?_⟩)
            have nv : ¬ (0 ≤ v3 ∧ v3 < nI 5) := fun u => no ⟨by rw [ei]; exact nI_pos' (by omega), by rw [ei]; exact nI_lt hi (by omega), u⟩
            rw [if_neg (fun u => nv (by rw [u]; decide)), if_neg (fun u => nv (by rw [u]; decide)), if_neg (fun u => nv (by rw [u]; decide)), if_neg (fun u => nv (by rw [u]; decide)), if_neg (fun u => nv (by rw [u]; decide))]
          · exact Or.inr (Or.inl ⟨z, fun i hi e => y ⟨i, hi, e⟩, rfl⟩)
  · simp only [if_neg hv, if_true]; exact ⟨h, m, _, rfl, rfl, keepX.rf, keepM.rf⟩
