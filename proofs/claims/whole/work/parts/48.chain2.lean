/-! chain: the reference's walk; both alike -/
section CH3
variable {h m : HP} {w : Nat → Int32} {s n : Nat} {q : Nat → Nat} {v2 v3 : Int32}
noncomputable def chV (w : Nat → Int32) (s : Nat) (q : Nat → Nat) (j : Nat) : Int32 := if j = 0 then -1 else nI (q (nth (chT (fun t => sp w s (q t)) (fun t => ep w s (q t))) (j - 1)))
set_option maxHeartbeats 400000 in
theorem M_chst (hw : m.1 1 = w) (R : RowsOk w) (hs : s < 2) (L : RL h n q (fun o => decide (fld w s o 1 = v2)) (ep w s) (nS w s)) {j : Nat} (hj : j ≤ cN (chT (fun t => sp w s (q t)) (fun t => ep w s (q t))) n) : f_Mo_chain_b22 0 m (nI s) v2 v3 (chV w s q j) (nI j) = some (if j < cN (chT (fun t => sp w s (q t)) (fun t => ep w s (q t))) n then (if nI j = v3 then Sum.inr (nI (q (nth (chT (fun t => sp w s (q t)) (fun t => ep w s (q t))) j))) else Sum.inl (chV w s q (j + 1), nI (j + 1))) else Sum.inr (if v3 = -1 then nI j else -1)) := by
  have hN := (R s hs).2.1
  have P := ch_pick R hs L hj
  have qb : 0 < j → q (nth (chT (fun t => sp w s (q t)) (fun t => ep w s (q t))) (j - 1)) < nS w s := fun z => RL.lt L (nth_cN (show j - 1 < cN (chT (fun t => sp w s (q t)) (fun t => ep w s (q t))) n by omega)).1
  have hv : chV w s q j = -1 ∨ ∃ r, r < 40 ∧ chV w s q j = nI r := by
    unfold chV
    by_cases z : j = 0
    · rw [if_pos z]; exact Or.inl rfl
    · rw [if_neg z]; exact Or.inr ⟨_, Nat.lt_of_lt_of_le (qb (by omega)) hN, rfl⟩
  have hok : ∀ o, o < nS w s → ((fun o => (fun o => decide (fld w s o 1 = v2)) o && decide (chB (fun t => sp w s (q t)) (fun t => ep w s (q t)) j ≤ sp w s o)) o) = (decide (fld w s o 1 = v2) && (decide (chV w s q j = -1) || decide (ep w s (ix (chV w s q j)) ≤ sp w s o))) := by
    intro o ho
    show (decide (fld w s o 1 = v2) && decide (chB (fun t => sp w s (q t)) (fun t => ep w s (q t)) j ≤ sp w s o)) = _
    congr 1
    unfold chV chB
    by_cases z : j = 0
    · rw [if_pos z, if_pos z, decide_eq_true (rfl : (-1 : Int32) = -1), Bool.true_or]
      refine decide_eq_true ?_
      have := (sp_rng R hs ho).1
      rw [Int32.le_iff_toInt_le]
      exact this
    · have := qb (by omega)
      rw [if_neg z, if_neg z, decide_eq_false (nI_m1 (by omega)), Bool.false_or, ix_nI (by omega)]
  unfold f_Mo_chain_b22
  rw [M_pick (v3 := v3) (v5 := nI j) hw R hs hv hok P]
  by_cases z : j < cN (chT (fun t => sp w s (q t)) (fun t => ep w s (q t))) n
  · have := RL.lt L (nth_cN z).1
    rw [if_pos z, if_pos z, if_neg (nI_m1 (by omega)), nI_1]
    rfl
  · rw [if_neg z, if_neg z, if_pos rfl]
set_option maxHeartbeats 400000 in
theorem M_chA (hw : m.1 1 = w) (R : RowsOk w) (hs : s < 2) (L : RL h n q (fun o => decide (fld w s o 1 = v2)) (ep w s) (nS w s)) {c : Nat} (hc : c < cN (chT (fun t => sp w s (q t)) (fun t => ep w s (q t))) n) : f_Mo_chain_l22 0 m (nI s) v2 (nI c) (-1, 0) = some (nI (q (nth (chT (fun t => sp w s (q t)) (fun t => ep w s (q t))) c))) := by
  have hn := L.1.1
  have hl := cN_le (chT (fun t => sp w s (q t)) (fun t => ep w s (q t))) n
  unfold f_Mo_chain_l22
  refine loop_up (fun j => (chV w s q j, nI j)) c (fun j hj => ?_) ?_
  · show f_Mo_chain_b22 0 m (nI s) v2 (nI c) (chV w s q j) (nI j) = _
    rw [M_chst hw R hs L (by omega), if_pos (by omega), if_neg (fun e => absurd ((nI_eq (by omega) (by omega)).mp e) (by omega))]
  · show f_Mo_chain_b22 0 m (nI s) v2 (nI c) (chV w s q c) (nI c) = _
    rw [M_chst hw R hs L (by omega), if_pos hc, if_pos rfl]
set_option maxHeartbeats 400000 in
theorem M_chBB (hw : m.1 1 = w) (R : RowsOk w) (hs : s < 2) (L : RL h n q (fun o => decide (fld w s o 1 = v2)) (ep w s) (nS w s)) (hc : ∀ c, c < cN (chT (fun t => sp w s (q t)) (fun t => ep w s (q t))) n → v3 ≠ nI c) : f_Mo_chain_l22 0 m (nI s) v2 v3 (-1, 0) = some (if v3 = -1 then nI (cN (chT (fun t => sp w s (q t)) (fun t => ep w s (q t))) n) else -1) := by
  unfold f_Mo_chain_l22
  refine loop_up (fun j => (chV w s q j, nI j)) (cN (chT (fun t => sp w s (q t)) (fun t => ep w s (q t))) n) (fun j hj => ?_) ?_
  · show f_Mo_chain_b22 0 m (nI s) v2 v3 (chV w s q j) (nI j) = _
    rw [M_chst hw R hs L (by omega), if_pos hj, if_neg (fun e => hc j hj e.symm)]
  · show f_Mo_chain_b22 0 m (nI s) v2 v3 (chV w s q _) (nI _) = _
    rw [M_chst hw R hs L (Nat.le_refl _), if_neg (Nat.lt_irrefl _)]
set_option maxHeartbeats 400000 in
theorem X_chain36 (V : RV h (rc 1 s) w s (nS w s)) (R : RowsOk w) (hs : s < 2) (hrc : rc 1 s = 2 ∨ rc 1 s = 8) (C : CW h 32 0 (fun t => lN (cdN (ep w s) (nth (fun o => decide (fld w s o 1 = v2)) t)))) (v3 : Int32) (K : HP × Int32 → Prop) (hK : ∀ h' q, frC 32 h h' → RL h' (cN (fun o => decide (fld w s o 1 = v2)) (nS w s)) q (fun o => decide (fld w s o 1 = v2)) (ep w s) (nS w s) → ∃ t, f_TJ_chain_l108 0 h' v3 (rc 1 s) (0, -2000000, 0) = some t ∧ K t) : ∃ t, f_TJ_chain_l36 0 h v2 v3 (rc 1 s) (h, 0) = some t ∧ K t := by
  have hN := V.1
  unfold f_TJ_chain_l36
  refine loop_inv (fun i x => ∃ h', x = (h', nI i) ∧ frC 32 h h' ∧ CW h' 32 (cN (fun o => decide (fld w s o 1 = v2)) i) (fun t => lN (cdN (ep w s) (nth (fun o => decide (fld w s o 1 = v2)) t)))) (nS w s) K (fun i x hi hI => ?_) (fun x hI => ?_) (h, 0) ⟨h, rfl, frC.rf, C⟩
  · obtain ⟨h', rfl, F, C'⟩ := hI
    have V' := RV.fc V F
    show ∃ s', f_TJ_chain_b36 0 h' v2 v3 (rc 1 s) (nI i) = some (Sum.inl s') ∧ _
    unfold f_TJ_chain_b36
    rw [V'.2.1, if_neg (ngt hi hN), if_pos (inb_nI (show i < 40 by omega) (by decide)), ix_nI (by omega), (V'.2.2 i hi).2.1, X_end V' hi, nI_1]
    simp only [Option.bind_some, Nat.zero_add]
    by_cases k : fld w s i 1 = v2
    · have b := sp_rng R hs hi
      obtain ⟨h2, e2, C2, F2⟩ := CW_row C' (show i < 160 by omega) (decide_eq_true k)
      rw [if_pos k, cod_lN (by omega) (by omega) (by omega)]
      rw [show lN (pN (ep w s i) * 64 + i) = lN (cdN (ep w s) i) from rfl, e2]
      exact ⟨_, rfl, h2, rfl, F.tr F2, C2⟩
    · rw [if_neg k]
      exact ⟨_, rfl, h', rfl, F, CW_skip C' (decide_eq_false k)⟩
  · obtain ⟨h', rfl, F, C'⟩ := hI
    have V' := RV.fc V F
    show ∃ t, f_TJ_chain_b36 0 h' v2 v3 (rc 1 s) (nI (nS w s)) = some (Sum.inr t) ∧ K t
    unfold f_TJ_chain_b36
    obtain ⟨h2, q, e2, L, F2⟩ := RL_sort hN (fun o ho => by
      have b := sp_rng R hs ho
      unfold pN; omega) C'
    obtain ⟨t, et, kt⟩ := hK h2 q (F.tr F2) L
    rw [V'.2.1, if_pos (nle _)]
    simp only [Nat.zero_add]
    rw [e2]
    simp only [Option.bind_some]
    rw [et]
    exact ⟨t, rfl, kt⟩
end CH3
set_option maxHeartbeats 400000 in
theorem q_chain {h m : HP} {w : Nat → Int32} (Q : RQ h m w) (v1 v2 v3 : Int32) : ∃ h' r, f_TJ_chain 0 h v1 v2 v3 = some (h', r) ∧ f_Mo_chain 0 m v1 v2 v3 = some r ∧ keepX h h' := by
  obtain ⟨hw, V, R, -, hW⟩ := Q
  unfold f_TJ_chain f_Mo_chain
  rw [X_isSide, M_isSide, X_isKey, M_isKey]
  simp only [Option.bind_some]
  by_cases hv : v1 = 0 ∨ v1 = 1
  · obtain ⟨s, hs, rfl⟩ := side_in hv
    simp only [if_pos hv, if_neg one0]
    by_cases hk : 0 ≤ v2 ∧ v2 ≤ 9
    · simp only [if_pos hk, if_neg one0]
      obtain ⟨h1, e1, C1, F1⟩ := X_cempty h 32 (fun t => lN (cdN (ep w s) (nth (fun o => decide (fld w s o 1 = v2)) t)))
      have V1 := RV.fc (V.rv hs) F1
      rw [X_rowsOf (b := 0 + 1) hs rfl]
      simp only [Option.bind_some]
      rw [show f_Co_empty (0 + 32) h = some h1 from e1]
      simp only [Option.bind_some]
      have key := X_chain36 V1 R hs (by unfold rc; split <;> simp) C1 v3 (fun t => f_Mo_chain_l22 0 m (nI s) v2 v3 (-1, 0) = some t.2 ∧ keepX h t.1) (fun h' q F L => ?_)
      · obtain ⟨⟨h', r⟩, et, a, b⟩ := key
        exact ⟨h', r, et, a, b⟩
      · have V2 := RV.fc V1 F
        have kX : keepX h h' := fun a ha => (F1.tr F).1 a (by omega)
        by_cases z : ∃ c, c < cN (chT (fun t => sp w s (q t)) (fun t => ep w s (q t))) (cN (fun o => decide (fld w s o 1 = v2)) (nS w s)) ∧ v3 = nI c
        · obtain ⟨c, hc, rfl⟩ := z
          exact ⟨_, X_chA V2 L hc, M_chA hw R hs L hc, kX⟩
        · have hc : ∀ c, c < cN (chT (fun t => sp w s (q t)) (fun t => ep w s (q t))) (cN (fun o => decide (fld w s o 1 = v2)) (nS w s)) → v3 ≠ nI c := fun c h1 h2 => z ⟨c, h1, h2⟩
          exact ⟨_, X_chBB V2 L hc, M_chBB hw R hs L hc, kX⟩
    · simp only [if_neg hk, if_true]; exact ⟨h, _, rfl, rfl, keepX.rf⟩
  · simp only [if_neg hv, if_true]; exact ⟨h, _, rfl, rfl, keepX.rf⟩
