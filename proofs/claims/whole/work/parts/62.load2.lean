/-! add, load: a row comes or not, on both sides alike -/
/-- no row of that kind may come, and this is the cause -/
def bad (h m : HP) (s : Nat) (pl v3 v4 v5 v6 v7 f mu : Int32) : Prop := f ≠ 0 ∧ f_Ro_faultOf (rc 1 s) h v3 v4 v5 v6 = some f ∧ (∀ h', (∀ a, a < 20 → h'.1 a = h.1 a) → f_Ro_measureOf (rc 1 s) h' f v3 v4 v5 v6 = some mu) ∧ ∀ m1 m2, trM m m1 → f_Mo_causes 0 m 2 pl = some m1 → f_Mo_causes 0 m1 f mu = some m2 → f_Mo_comes 0 m (nI s) pl v3 v4 v5 v6 v7 = some (m2, 0)
def good (h m : HP) (s : Nat) (pl v3 v4 v5 v6 v7 : Int32) : Prop := nS (m.1 1) s < 40 ∧ f_Ro_faultOf (rc 1 s) h v3 v4 v5 v6 = some 0 ∧ (0 ≤ v3 ∧ v3 ≤ 3) ∧ (0 ≤ v4 ∧ v4 ≤ 9) ∧ spnF v5 v6 = 0 ∧ f_Mo_comes 0 m (nI s) pl v3 v4 v5 v6 v7 = some (cmM m s (nS (m.1 1) s) v3 v4 v5 v6 v7, 1)
def lsV (w : Nat → Int32) (s : Nat) (run : Int32) : Int32 := match lsO w s run with | some t => fld w s (nS w s - 1 - t) 2 | none => -1000000
def orV (w : Nat → Int32) (s : Nat) (run st : Int32) : Int32 := match lsO w s run with | some t => (if fld w s (nS w s - 1 - t) 2 ≤ st then 0 else fld w s (nS w s - 1 - t) 2 - st) | none => 0
set_option maxHeartbeats 400000 in
theorem X_ls {h : HP} {cc : Nat} {w : Nat → Int32} {s : Nat} (V : RV h cc w s (nS w s)) (run : Int32) : f_Ro_lastStart cc h run = some (lsV w s run) := X_lastStart V run
set_option maxHeartbeats 400000 in
theorem M_or {m : HP} {w : Nat → Int32} (hw : m.1 1 = w) (R : RowsOk w) {s : Nat} (hs : s < 2) (run st : Int32) : f_Mo_orderTrouble 0 m (nI s) run st = some (orV w s run st) := M_order hw R hs run st
set_option maxHeartbeats 400000 in
theorem ls_cases (w : Nat → Int32) (s : Nat) (run st : Int32) : (lsV w s run = -1000000 ∧ orV w s run st = 0) ∨ ∃ r, r < nS w s ∧ lsV w s run = fld w s r 2 ∧ ((fld w s r 2 ≤ st ∧ orV w s run st = 0) ∨ (¬ fld w s r 2 ≤ st ∧ orV w s run st = fld w s r 2 - st)) := by
  unfold lsV orV
  cases hl : lsO w s run with
  | none => exact Or.inl ⟨rfl, rfl⟩
  | some t =>
    obtain ⟨t1, -, -⟩ := fstN_some hl
    refine Or.inr ⟨nS w s - 1 - t, by omega, rfl, ?_⟩
    by_cases z : fld w s (nS w s - 1 - t) 2 ≤ st
    · exact Or.inl ⟨z, if_pos z⟩
    · exact Or.inr ⟨z, if_neg z⟩
set_option maxHeartbeats 400000 in
theorem fstN_congr {p q : Nat → Bool} : ∀ n, (∀ i, i < n → p i = q i) → fstN p n = fstN q n
  | 0, _ => rfl
  | n + 1, h => by
    unfold fstN
    rw [fstN_congr n (fun i hi => h i (by omega)), h n (by omega)]
set_option maxHeartbeats 400000 in
theorem orV_cg {w w' : Nat → Int32} {s : Nat} (hs : s < 2) (R : RowsOk w) (e : ∀ j, j < 404 → w' j = w j) (run st : Int32) : orV w' s run st = orV w s run st := by
  have hn := (R s hs).2.1
  have e2 : ∀ j, 2 ≤ j → j < 404 → w' j = w j := fun j _ h => e j h
  have n1 := nS_cg e2 hs
  have f1 : ∀ r k, r < nS w s → k < 5 → fld w' s r k = fld w s r k := fun r k hr hk => fld_cg e2 hs (by omega) hk
  have lo : lsO w' s run = lsO w s run := by
    unfold lsO
    rw [n1]
    exact fstN_congr _ (fun t ht => by rw [f1 _ 0 (by omega) (by omega)])
  unfold orV
  rw [lo, n1]
  cases hl : lsO w s run with
  | none => rfl
  | some t =>
    obtain ⟨t1, -, -⟩ := fstN_some hl
    show (if fld w' s (nS w s - 1 - t) 2 ≤ st then 0 else fld w' s (nS w s - 1 - t) 2 - st) = (if fld w s (nS w s - 1 - t) 2 ≤ st then 0 else fld w s (nS w s - 1 - t) 2 - st)
    rw [f1 _ 2 (by omega) (by omega)]
set_option maxHeartbeats 400000 in
theorem comes_both {h m : HP} (V : SV h 1 (m.1 1)) (R : RowsOk (m.1 1)) {s : Nat} (hs : s < 2) (pl v3 v4 v5 v6 v7 : Int32) : good h m s pl v3 v4 v5 v6 v7 ∨ ∃ f mu, bad h m s pl v3 v4 v5 v6 v7 f mu := by
  have hn := (R s hs).2.1
  have Vr := V.rv hs
  have w2 := (R s hs).1
  have hrc : rc 1 s ≤ 8 := by unfold rc; split <;> omega
  have VR : ∀ h', (∀ a, a < 20 → h'.1 a = h.1 a) → RV h' (rc 1 s) (m.1 1) s (nS (m.1 1) s) := fun h' e => Vr.cgh (fun a h1 h2 => e a (by omega))
  have c40 : (m.1 1 (2 + s) = 40) ↔ nS (m.1 1) s = 40 := by
    rw [w2]; exact nI_eq (b := 40) (by omega) (by omega)
  -- the reference, once the kind is known
  have bd : ∀ f mu, f ≠ 0 → f_Ro_faultOf (rc 1 s) h v3 v4 v5 v6 = some f → (∀ h', (∀ a, a < 20 → h'.1 a = h.1 a) → f_Ro_measureOf (rc 1 s) h' f v3 v4 v5 v6 = some mu) → (∀ m1 m2, trM m m1 → f_Mo_causes 0 m 2 pl = some m1 → f_Mo_causes 0 m1 f mu = some m2 → f_Mo_comes 0 m (nI s) pl v3 v4 v5 v6 v7 = some (m2, 0)) → good h m s pl v3 v4 v5 v6 v7 ∨ ∃ f mu, bad h m s pl v3 v4 v5 v6 v7 f mu := fun f mu a b c d => Or.inr ⟨f, mu, a, b, c, d⟩
  by_cases k7 : nS (m.1 1) s = 40
  · refine bd 7 40 (by decide) ?_ (fun h' e => ?_) (fun m1 m2 t e1 e2 => ?_)
    · unfold f_Ro_faultOf; rw [Vr.2.1, k7, if_neg (show ¬ nI 40 < (40 : Int32) by decide)]
    · unfold f_Ro_measureOf
      rw [if_neg (by decide), if_neg (by decide), if_neg (by decide), if_neg (by decide), if_pos rfl, (VR h' e).2.1, k7]; rfl
    · unfold f_Mo_comes f_Mo_comes_j74 f_Mo_comes_j187
      rw [if_pos (many_ix hs rfl).1, (many_ix hs rfl).2, Nat.zero_add, if_pos (c40.mpr k7), if_neg (by decide), e1]
      simp only [Option.bind_some, if_true]
      rw [e2]; rfl
  have x40 : nI (nS (m.1 1) s) < 40 := nI_lt (b := 40) (by omega) (by decide)
  have M1 : f_Mo_comes 0 m (nI s) pl v3 v4 v5 v6 v7 = (if (if 0 ≤ v3 ∧ v3 ≤ 3 then (1 : Int32) else 0) = 0 then f_Mo_comes_j74 0 m (nI s) pl v3 v4 v5 v6 v7 3 else (if (if 0 ≤ v4 ∧ v4 ≤ 9 then (1 : Int32) else 0) = 0 then f_Mo_comes_j74 0 m (nI s) pl v3 v4 v5 v6 v7 4 else (if spnF v5 v6 ≤ 0 then ((f_Mo_orderTrouble 0 m (nI s) v3 v5).bind fun r9 => (if r9 ≤ 0 then f_Mo_comes_j74 0 m (nI s) pl v3 v4 v5 v6 v7 0 else f_Mo_comes_j74 0 m (nI s) pl v3 v4 v5 v6 v7 6)) else f_Mo_comes_j74 0 m (nI s) pl v3 v4 v5 v6 v7 5))) := by
    unfold f_Mo_comes
    rw [if_pos (many_ix hs rfl).1, (many_ix hs rfl).2, Nat.zero_add, if_neg (fun z => k7 (c40.mp z)), M_isIn, M_isKey, M_span]
    simp only [Option.bind_some]
  by_cases k3 : 0 ≤ v3 ∧ v3 ≤ 3
  · have k3' : v3 < 4 := Int32.lt_of_le_of_lt k3.2 (by decide)
    by_cases k4 : 0 ≤ v4 ∧ v4 ≤ 9
    · rcases spn3 v5 v6 with k5 | k5
      · have fx : f_Ro_faultOf (rc 1 s) h v3 v4 v5 v6 = some (if lsV (m.1 1) s v3 ≤ v5 then 0 else 6) := by
          unfold f_Ro_faultOf
          rw [Vr.2.1, if_pos x40, if_neg (Int32.not_lt.mpr k3.1), if_pos k3', X_isKey, if_pos k4, X_span, k5, X_ls Vr]
          simp only [Option.bind_some, if_true]
          rw [if_neg one0]
          split <;> rfl
        have mo := M_or (m := m) rfl R hs v3 v5
        rw [if_neg (by rw [if_pos k3]; exact one0), if_neg (by rw [if_pos k4]; exact one0), if_pos (by rw [k5]; decide), mo] at M1
        simp only [Option.bind_some] at M1
        have sp0 := spn0 k5
        have okc : f_Mo_comes_j74 0 m (nI s) pl v3 v4 v5 v6 v7 0 = some (cmM m s (nS (m.1 1) s) v3 v4 v5 v6 v7, 1) := by
          unfold f_Mo_comes_j74 f_Mo_at
          have l : 4 + 5 * (40 * nI s + nI (nS (m.1 1) s)) = nI (4 + 5 * (40 * s + nS (m.1 1) s)) := by
            rw [show (40 : Int32) * nI s = nI (40 * s) from pk_mul 40 s, nI_add]; exact lin1 4 5 _
          rw [if_pos rfl, if_pos (many_ix hs rfl).1, (many_ix hs rfl).2, Nat.zero_add, w2]
          simp only [Option.bind_some]
          rw [l, M_lays (by omega)]
          simp only [Option.bind_some]
          rw [if_pos (many_ix hs rfl).1, if_pos (many_ix hs rfl).1, lyM_out (by omega), w2, nI_1]
          rfl
        rcases ls_cases (m.1 1) s v3 v5 with ⟨l1, l2⟩ | ⟨r, hr, l1, ⟨ord, l2⟩ | ⟨ord, l2⟩⟩
        · left
          refine ⟨by omega, ?_, k3, k4, k5, ?_⟩
          · rw [fx, l1, if_pos (Int32.le_iff_toInt_le.mpr (show (-1000000 : Int32).toInt ≤ v5.toInt from sp0.1))]
          · rw [M1, l2, if_pos (by decide)]; exact okc
        · left
          refine ⟨by omega, ?_, k3, k4, k5, ?_⟩
          · rw [fx, l1, if_pos ord]
          · rw [M1, l2, if_pos (by decide)]; exact okc
        · rw [l1, if_neg ord] at fx
          have ro := ((R s hs).2.2 r hr).2.2
          have pos : ¬ fld (m.1 1) s r 2 - v5 ≤ 0 := by
            have o := Int32.lt_iff_toInt_lt.mp (Int32.not_le.mp ord)
            rw [Int32.le_iff_toInt_le, Int32.toInt_sub]
            simp only [Int.bmod, show (0 : Int32).toInt = 0 from rfl]
            omega
          rw [l2, if_neg pos] at M1
          refine bd 6 (fld (m.1 1) s r 2 - v5) (by decide) fx (fun h' e => ?_) (fun m1 m2 tr e1 e2 => ?_)
          · unfold f_Ro_measureOf
            rw [if_neg (by decide), if_neg (by decide), if_neg (by decide), if_pos rfl, X_ls (VR h' e), l1]
            rfl
          · rw [M1]
            unfold f_Mo_comes_j74 f_Mo_comes_j187
            rw [if_neg (by decide), e1]
            simp only [Option.bind_some]
            rw [if_neg (by decide), if_neg (by decide), if_neg (by decide), if_neg (by decide), M_or (m := m1) rfl (R.cgw (fun j _ hj => tr.2 j (by omega))) hs v3 v5, orV_cg hs R (fun j hj => tr.2 j (by omega)) v3 v5, l2]
            simp only [Option.bind_some]
            rw [e2]
            rfl
      · have k5' : ¬ spnF v5 v6 = 0 := by rcases k5 with e | e | e <;> rw [e] <;> decide
        have k5'' : ¬ spnF v5 v6 ≤ 0 := by rcases k5 with e | e | e <;> rw [e] <;> decide
        rw [if_neg (by rw [if_pos k3]; exact one0), if_neg (by rw [if_pos k4]; exact one0), if_neg k5''] at M1
        refine bd 5 (spnF v5 v6) (by decide) ?_ (fun h' e => ?_) (fun m1 m2 t e1 e2 => ?_)
        · unfold f_Ro_faultOf
          rw [Vr.2.1, if_pos x40, if_neg (Int32.not_lt.mpr k3.1), if_pos k3', X_isKey, if_pos k4, X_span]
          simp only [Option.bind_some]
          rw [if_neg one0, if_neg k5']
        · unfold f_Ro_measureOf
          rw [if_neg (by decide), if_neg (by decide), if_pos rfl, X_span]
          rfl
        · rw [M1]
          unfold f_Mo_comes_j74 f_Mo_comes_j187
          rw [if_neg (by decide), e1]
          simp only [Option.bind_some]
          rw [if_neg (by decide), if_neg (by decide), if_neg (by decide), if_pos trivial, M_span]
          simp only [Option.bind_some]
          rw [e2]; rfl
    · rw [if_neg (by rw [if_pos k3]; exact one0), if_pos (by rw [if_neg k4])] at M1
      refine bd 4 v4 (by decide) ?_ (fun h' e => ?_) (fun m1 m2 t e1 e2 => ?_)
      · unfold f_Ro_faultOf
        rw [Vr.2.1, if_pos x40, if_neg (Int32.not_lt.mpr k3.1), if_pos k3', X_isKey, if_neg k4]
        rfl
      · unfold f_Ro_measureOf
        rw [if_neg (by decide), if_pos rfl]
      · rw [M1]
        unfold f_Mo_comes_j74 f_Mo_comes_j187
        rw [if_neg (by decide), e1]
        simp only [Option.bind_some]
        rw [if_neg (by decide), if_neg (by decide), if_pos trivial, e2]; rfl
  · rw [if_pos (by rw [if_neg k3])] at M1
    refine bd 3 v3 (by decide) ?_ (fun h' e => ?_) (fun m1 m2 t e1 e2 => ?_)
    · unfold f_Ro_faultOf
      rw [Vr.2.1, if_pos x40]
      by_cases z : v3 < 0
      · rw [if_pos z]
      · rw [if_neg z]
        by_cases y : v3 < 4
        · exfalso
          refine k3 ⟨Int32.not_lt.mp z, ?_⟩
          have y := Int32.lt_iff_toInt_lt.mp y
          rw [Int32.le_iff_toInt_le]
          rw [show (4 : Int32).toInt = 4 from rfl] at y
          rw [show (3 : Int32).toInt = 3 from rfl]
          omega
        · rw [if_neg y]
    · unfold f_Ro_measureOf
      rw [if_pos rfl]
    · rw [M1]
      unfold f_Mo_comes_j74 f_Mo_comes_j187
      rw [if_neg (by decide), e1]
      simp only [Option.bind_some]
      rw [if_neg (by decide), if_pos trivial, e2]; rfl
set_option maxHeartbeats 400000 in
theorem q_add {h m : HP} (S : RT h 1 (m.1 1)) (v1 v2 v3 v4 v5 v6 : Int32) : AlikeS h m (f_TJ_add 0 h v1 v2 v3 v4 v5 v6) (f_Mo_add 0 m v1 v2 v3 v4 v5 v6) := by
  obtain ⟨e1, T1, X1, M1⟩ := forget_both h m
  have U1 := S.ru.cgt X1 M1
  obtain ⟨r1, r2, r3⟩ := U1.2.2.2.2.run
  unfold f_TJ_add f_Mo_add f_Mo_isSweeping
  simp only [Nat.zero_add, Nat.reduceAdd, ix605, ix614, ix615]
  rw [e1]
  simp only [Option.bind_some]
  generalize upI h 20 2 0 = h1 at *
  generalize upI m 1 605 0 = m1 at *
  rw [X_isSide, M_isSide]
  simp only [Option.bind_some]
  by_cases hv : v1 = 0 ∨ v1 = 1
  · obtain ⟨s, hs, rfl⟩ := side_in hv
    rw [if_pos hv, if_neg one0, if_neg one0, r1]
    rcases r2 with z | z
    · rw [z, if_pos rfl, if_neg (show ¬ (0 : Int32) = 1 by decide)]
      simp only [Option.bind_some, if_true]
      rw [X_rowsOf hs rfl]
      simp only [Option.bind_some]
      have hrc : rc 1 s = 2 + 6 * s := by unfold rc; split <;> omega
      rcases comes_both U1.1 U1.2.1 hs 0 v2 v3 v4 v5 v6 with ⟨hn, f0, c1, c2, c3, cm⟩ | ⟨f, mu, f0, f1, f2, f3⟩
      · have g := cmr_grow (v1 := v2) (v2 := v3) (v3 := v4) (v4 := v5) (v5 := v6) U1.2.1 hs hn rfl
        have hv2 := (U1.1.rv hs).2.1
        rw [f0, cm]
        simp only [Option.bind_some]
        rw [if_pos trivial, X_append hv2 hn]
        simp only [Option.bind_some]
        rw [if_neg one0, if_pos (many_ix hs rfl).1, (many_ix hs rfl).2, (cmr_n hs hn).2, apH_c]
        have ho : ∀ a, (a < 2 ∨ 13 < a) → (apH h1 (rc 1 s) (nS (m1.1 1) s) v2 v3 v4 v5 v6).1 a = h1.1 a := fun a ha => apH_fr (by omega)
        refine ⟨_, _, _, rfl, rfl, ⟨cmr_sv U1.1 U1.2.1 hs hn rfl, cmr_rows U1.2.1 hs hn rfl c1 c2 c3, ?_, ?_, ?_, ?_⟩, ?_, ?_⟩
        · rw [cmr_out hs hn (by omega), cmr_out hs hn (by omega)]; exact U1.2.2.1
        · exact (U1.2.2.2.1.cgt (fun a h1 h2 => ho a (by omega))).cgw (fun j h1 h2 => cmr_out hs hn (by omega))
        · exact TV.cgw (w := m1.1 1) ⟨0, by omega, by rw [ho _ (by omega)]; exact T1.2.1, T1.2.2.1, fun i hi => by omega⟩ (fun j h1 h2 => cmr_out hs hn (by omega))
        · exact (U1.2.2.2.2.cgt (fun a h1 h2 => ho a (by omega))).cgw g (fun j h1 h2 => cmr_out hs hn (by omega))
        · exact X1.net.tr ⟨ho 29 (by omega), ho 30 (by omega), ho 31 (by omega)⟩
        · exact M1.net.tr ⟨fun k _ => cmr_out hs hn (by omega), cmr_fr (by decide), by rw [cmr_fr (by decide)], cmr_fr (by decide), by rw [cmr_fr (by decide)]⟩
      · obtain ⟨h2, m2, e2, e3, T2, X2, M2⟩ := because_both T1 (by omega) 2 0
        obtain ⟨h3, m3, e4, e5, T3, X3, M3⟩ := because_both T2 (by omega) f mu
        rw [f1, f3 m2 m3 M2 e3 e5]
        simp only [Option.bind_some]
        rw [if_neg f0, e2]
        simp only [Option.bind_some]
        rw [f2 h2 (fun a ha => X2 a (by omega) (by omega) (by omega))]
        simp only [Option.bind_some]
        rw [e4]
        simp only [Option.bind_some, if_true]
        exact ⟨h3, m3, -1, rfl, rfl, (U1.cgt (X2.tr X3) (M2.tr M3)).rt T3.tv, X1.net.tr (X2.tr X3).net, M1.net.tr (M2.tr M3).net⟩
    · obtain ⟨h2, m2, e2, e3, T2, X2, M2⟩ := because_both T1 (by omega) 8 (m1.1 1 615)
      rw [z, if_neg one0, if_pos rfl]
      simp only [Option.bind_some]
      rw [if_neg one0, r3, e2, e3]
      exact ⟨h2, m2, -1, rfl, rfl, (U1.cgt X2 M2).rt T2.tv, X1.net.tr X2.net, M1.net.tr M2.net⟩
  · rw [if_neg hv, if_pos rfl, if_pos rfl]
    exact ⟨h1, m1, -2, rfl, rfl, U1.rt T1.tv, X1.net, M1.net⟩
