/-! sweep: alike -/
section S5
variable {m : HP} {w : Nat → Int32}
set_option maxHeartbeats 400000 in
theorem M_sw67 (hw : ∀ j, j < 404 → m.1 1 j = w j) (R : RowsOk w) (W : EW m (srtK (kE w) (fE (nS w 0)) 0) 0) (z617 : m.1 1 617 = 0) (z618 : m.1 1 618 = 0) (z615 : m.1 1 615 = nI 0) : ∃ m' : HP, f_Mo_sweep_l67 0 m (m, 0) = some (m', nI (2 * (nS w 0 + nS w 1))) ∧ (∀ a, a ≠ 1 → m'.1 a = m.1 a) ∧ (∀ j, j ≠ 614 → j ≠ 616 → j ≠ 617 → j ≠ 618 → (j < 621 ∨ 783 ≤ j) → m'.1 1 j = m.1 1 j) ∧ m'.1 1 614 = (if 2 * (nS w 0 + nS w 1) ≤ 0 then 0 else 1) ∧ m'.1 1 616 = nI (2 * (nS w 0 + nS w 1)) ∧ (∀ k, k < 2 * (nS w 0 + nS w 1) → m'.1 1 (621 + k) = nI (EE w k)) ∧ m'.1 1 781 = nI 0 ∧ m'.1 1 782 = nI 0 ∧ m'.1 1 617 = nI 0 + nI 0 + nI (cN (hdB w 0 (2 * (nS w 0 + nS w 1)) (EE w)) 8) ∧ m'.1 1 618 = 0 := by
  have n0 := (R 0 (by omega)).2.1
  have n1 := (R 1 (by omega)).2.1
  -- side 0
  have hw1 : ∀ j, j < 404 → (upI m 1 781 0).1 1 j = w j := fun j hj => by rw [upI_s, if_neg (by omega)]; exact hw j hj
  obtain ⟨m1, p1, W1, k1⟩ := M_sw85 (m := upI m 1 781 0) (s := 0) (b := 0) hw1 R (by omega) (by omega) (by omega) ⟨by rw [upI_s, if_neg (by omega)]; exact W.1, fun k hk => by omega⟩
  have b1 : f_Mo_sweep_b67 0 m 0 = some (Sum.inl (m1, nI 1)) := by
    unfold f_Mo_sweep_b67
    rw [if_neg (show ¬ (2 : Int32) ≤ 0 by decide), show (781 + 0 : Int32) = nI 781 by decide, if_pos (inb_nI (by decide) (by decide)), ix_nI (by decide)]
    exact p1
  -- side 1
  have hw2 : ∀ j, j < 404 → (upI m1 1 782 0).1 1 j = w j := fun j hj => by rw [upI_s, if_neg (by omega), k1.2 j (by omega) (by omega)]; exact hw1 j hj
  obtain ⟨m2, p2, W2, k2⟩ := M_sw85 (m := upI m1 1 782 0) (s := 1) (b := 0 + 2 * nS w 0) hw2 R (by omega) (by omega) (by omega) ⟨by rw [upI_s, if_neg (by omega)]; exact W1.1, fun k hk => by rw [upI_s, if_neg (by omega)]; exact W1.2 k hk⟩
  have b2 : f_Mo_sweep_b67 0 m1 (nI 1) = some (Sum.inl (m2, nI 2)) := by
    unfold f_Mo_sweep_b67
    rw [if_neg (show ¬ (2 : Int32) ≤ nI 1 by decide), show (781 + nI 1 : Int32) = nI 782 by decide, if_pos (inb_nI (by decide) (by decide)), ix_nI (by decide)]
    exact p2
  rw [show 0 + 2 * nS w 0 + 2 * nS w 1 = 2 * (nS w 0 + nS w 1) by omega] at W2
  have EV := EE_evs R
  have eE : srtK (kE w) (fE (nS w 0)) (2 * (nS w 0 + nS w 1)) = EE w := rfl
  rw [eE] at W2
  generalize hT : 2 * (nS w 0 + nS w 1) = T at *
  have hT160 : T ≤ 160 := by omega
  have hw3 : ∀ j, j < 404 → m2.1 1 j = w j := fun j hj => by rw [k2.2 j (by omega) (by omega)]; exact hw2 j hj
  have old : ∀ j, j ≠ 616 → j ≠ 781 → j ≠ 782 → (j < 621 ∨ 781 ≤ j) → m2.1 1 j = m.1 1 j := fun j h1 h2 h3 h4 => by
    rw [k2.2 j h1 h4, upI_s, if_neg h3, k1.2 j h1 h4, upI_s, if_neg h2]
  have mo : ∀ a, a ≠ 1 → m2.1 a = m.1 a := fun a ha => by rw [k2.1 a ha, upI_at _ _ _ _ ha, k1.1 a ha, upI_at _ _ _ _ ha]
  have a781 : m2.1 1 781 = nI 0 := by rw [k2.2 781 (by omega) (by omega), upI_s, if_neg (by omega), k1.2 781 (by omega) (by omega), upI_s, if_pos rfl]; rfl
  have a782 : m2.1 1 782 = nI 0 := by rw [k2.2 782 (by omega) (by omega), upI_s, if_pos rfl]; rfl
  have e2 : ∀ j, 2 ≤ j → j < 404 → m2.1 1 j = w j := fun j _ h => hw3 j h
  have R2 : RowsOk (m2.1 1) := R.cgw e2
  have g2 : grow w (m2.1 1) := grow.of R e2
  have EV2 : EVs (m2.1 1) T (EE w) := ⟨fun k hk => ⟨(EV.1 k hk).1, Nat.lt_of_lt_of_le (EV.1 k hk).2 (g2 _ (sE_lt (EV.1 k hk).1)).1⟩, EV.2⟩
  have ML := M_looks (m := m2) (w := m2.1 1) (T := T) (G := 0) (E := EE w) (AC := fun _ => 0) rfl R2 hT160 (by omega) EV2 (by rw [old 615 (by omega) (by omega) (by omega) (by omega)]; exact z615) W2.1 W2.2 a781 a782
  have hd : cN (hdB (m2.1 1) 0 T (EE w)) 8 = cN (hdB w 0 T (EE w)) 8 := cN_congr 8 (fun u _ => hdB_cg EV g2 u)
  rw [hd, show m2.1 1 617 = 0 by rw [old 617 (by omega) (by omega) (by omega) (by omega)]; exact z617, show m2.1 1 618 = 0 by rw [old 618 (by omega) (by omega) (by omega) (by omega)]; exact z618] at ML
  have cl := cN_le (hdB w 0 T (EE w)) 8
  have v617 : (if (0 : Int32) < nI 0 + nI 0 + nI (cN (hdB w 0 T (EE w)) 8) then nI 0 + nI 0 + nI (cN (hdB w 0 T (EE w)) 8) else 0) = nI 0 + nI 0 + nI (cN (hdB w 0 T (EE w)) 8) := by
    rw [nI_add, nI_add]
    obtain ⟨c, hc, hc8⟩ : ∃ c, 0 + 0 + cN (hdB w 0 T (EE w)) 8 = c ∧ c ≤ 8 := ⟨_, rfl, by omega⟩
    rw [hc]
    by_cases z : (0 : Int32) < nI c
    · rw [if_pos z]
    · rw [if_neg z]
      have : ¬ nI 0 < nI c := z
      rcases Nat.eq_zero_or_pos c with y | y
      · rw [y]; rfl
      · by_cases big : c < 2 ^ 31
        · exact absurd (nI_lt y big) this
        · exfalso; omega
  have v618 : (if (0 : Int32) < nI 0 + nI 0 then nI 0 + nI 0 else 0) = 0 := by decide
  replace ML : f_Mo_looksAtHeld 0 m2 = some (upI (upI m2 1 617 (nI 0 + nI 0 + nI (cN (hdB w 0 T (EE w)) 8))) 1 618 0) := by
    rw [ML]
    show some (upI (upI m2 1 617 (if (0 : Int32) < nI 0 + nI 0 + nI (cN (hdB w 0 T (EE w)) 8) then nI 0 + nI 0 + nI (cN (hdB w 0 T (EE w)) 8) else 0)) 1 618 (if (0 : Int32) < nI 0 + nI 0 then nI 0 + nI 0 else 0)) = _
    rw [v617, v618]
  generalize nI 0 + nI 0 + nI (cN (hdB w 0 T (EE w)) 8) = A9 at *
  generalize hrun : (if T ≤ 0 then (0 : Int32) else 1) = run
  have b3 : f_Mo_sweep_b67 0 m2 (nI 2) = some (Sum.inr (upI (upI (upI m2 1 617 A9) 1 618 0) 1 614 run, nI T)) := by
    unfold f_Mo_sweep_b67
    rw [if_pos (show (2 : Int32) ≤ nI 2 from nle 2), ML]
    have s16 : (upI (upI m2 1 617 A9) 1 618 0).1 1 616 = nI T := by rw [upI_s, if_neg (by decide), upI_s, if_neg (by decide)]; exact W2.1
    simp only [Option.bind_some, Nat.zero_add, ix614, ix616]
    have s17 : ∀ v, (upI (upI (upI m2 1 617 A9) 1 618 0) 1 614 v).1 1 616 = nI T := fun v => by rw [upI_s, if_neg (by decide)]; exact s16
    rw [s16, s17, s17]
    by_cases z : T ≤ 0
    · rw [if_pos z] at hrun
      rw [if_pos (show nI T ≤ 0 by rw [show T = 0 by omega]; decide), hrun]; rfl
    · rw [if_neg z] at hrun
      rw [if_neg (nI_nle (by omega) (by omega)), hrun]; rfl
  refine ⟨upI (upI (upI m2 1 617 A9) 1 618 0) 1 614 run, ?_, fun a ha => by rw [upI_at _ _ _ _ ha, upI_at _ _ _ _ ha, upI_at _ _ _ _ ha]; exact mo a ha, fun j h1 h2 h3 h4 h5 => ?_, by rw [upI_s, if_pos rfl], ?_, fun k hk => ?_, ?_, ?_, ?_, ?_⟩
  · unfold f_Mo_sweep_l67
    rw [loop_inl (body := fun x : HP × Int32 => f_Mo_sweep_b67 0 x.1 x.2) (s := (m, 0)) b1, loop_inl (body := fun x : HP × Int32 => f_Mo_sweep_b67 0 x.1 x.2) b2]
    exact loop_inr b3
  · rw [upI_s, if_neg h1, upI_s, if_neg h4, upI_s, if_neg h3]; exact old j h2 (by omega) (by omega) (by omega)
  · rw [upI_s, if_neg (by decide), upI_s, if_neg (by decide), upI_s, if_neg (by decide)]; exact W2.1
  · rw [upI_s, if_neg (by omega), upI_s, if_neg (by omega), upI_s, if_neg (by omega)]; exact W2.2 k hk
  · rw [upI_s, if_neg (by decide), upI_s, if_neg (by decide), upI_s, if_neg (by decide)]; exact a781
  · rw [upI_s, if_neg (by decide), upI_s, if_neg (by decide), upI_s, if_neg (by decide)]; exact a782
  · rw [upI_s, if_neg (by decide), upI_s, if_neg (by decide), upI_s, if_pos rfl]
  · rw [upI_s, if_neg (by decide), upI_s, if_pos rfl]
set_option maxHeartbeats 400000 in
theorem M_sw36 (m : HP) : ∃ m' : HP, f_Mo_sweep_l36 0 m (m, 615) = f_Mo_sweep_l67 0 m' (m', 0) ∧ (∀ a, a ≠ 1 → m'.1 a = m.1 a) ∧ (∀ j, (j < 615 ∨ 620 < j) → j ≠ 863 → m'.1 1 j = m.1 1 j) ∧ (∀ j, 615 ≤ j → j ≤ 620 → m'.1 1 j = 0) ∧ m'.1 1 863 = 0 := by
  have st : ∀ t, t ≤ 6 → ∃ m' : HP, f_Mo_sweep_l36 0 m (m, 615) = f_Mo_sweep_l36 0 m (m', nI (615 + t)) ∧ (∀ a, a ≠ 1 → m'.1 a = m.1 a) ∧ (∀ j, (j < 615 ∨ 615 + t ≤ j) → m'.1 1 j = m.1 1 j) ∧ ∀ j, 615 ≤ j → j < 615 + t → m'.1 1 j = 0 := by
    intro t
    induction t with
    | zero => intro _; exact ⟨m, rfl, fun _ _ => rfl, fun _ _ => rfl, fun j h1 h2 => by omega⟩
    | succ t ih =>
      intro ht
      obtain ⟨m', e, f1, f2, f3⟩ := ih (by omega)
      refine ⟨upI m' 1 (615 + t) 0, ?_, fun a ha => by rw [upI_at _ _ _ _ ha]; exact f1 a ha, fun j hj => by rw [upI_s, if_neg (by omega)]; exact f2 j (by omega), fun j h1 h2 => ?_⟩
      · rw [e]
        unfold f_Mo_sweep_l36
        refine loop_inl ?_
        show f_Mo_sweep_b36 0 m' (nI (615 + t)) = _
        unfold f_Mo_sweep_b36
        rw [if_neg (show ¬ (620 : Int32) < nI (615 + t) from nI_nlt (a := 620) (b := 615 + t) (by omega) (by decide)), if_pos (inb_nI (show 615 + t < 4100 by omega) (by decide)), ix_nI (by omega), nI_1]
        rfl
      · rw [upI_s]
        by_cases z : j = 615 + t
        · rw [if_pos z]
        · rw [if_neg z]; exact f3 j h1 (by omega)
  obtain ⟨m', e, f1, f2, f3⟩ := st 6 (Nat.le_refl _)
  refine ⟨upI m' 1 863 0, ?_, fun a ha => by rw [upI_at _ _ _ _ ha]; exact f1 a ha, fun j h1 h2 => by rw [upI_s, if_neg h2]; exact f2 j (by omega), fun j h1 h2 => by rw [upI_s, if_neg (by omega)]; exact f3 j h1 (by omega), by rw [upI_s, if_pos rfl]⟩
  rw [e]
  unfold f_Mo_sweep_l36
  refine loop_fin ?_
  show f_Mo_sweep_b36 0 m' (nI 621) = _
  unfold f_Mo_sweep_b36
  simp only [Nat.zero_add, ix863]
  rw [if_pos (show (620 : Int32) < nI 621 by decide)]
end S5
set_option maxHeartbeats 400000 in
theorem q_sweep {h m : HP} (S : RT h 1 (m.1 1)) : AlikeS h m (f_TJ_sweep 0 h) (f_Mo_sweep 0 m) := by
  obtain ⟨e1, T1, X1, M1⟩ := forget_both h m
  have U1 := S.ru.cgt X1 M1
  obtain ⟨r1, r2, r3⟩ := U1.2.2.2.2.run
  unfold f_TJ_sweep f_Mo_sweep f_Mo_isSweeping
  simp only [Nat.zero_add, Nat.reduceAdd, ix605, ix614, ix615]
  rw [e1]
  simp only [Option.bind_some]
  generalize upI h 20 2 0 = h1 at *
  generalize upI m 1 605 0 = m1 at *
  rw [r1]
  rcases r2 with z | z
  · rw [z, if_pos rfl, if_neg (show ¬ (0 : Int32) = 1 by decide)]
    simp only [Option.bind_some, if_true]
    have V := U1.1
    have R := U1.2.1
    have n0 := (R 0 (by omega)).2.1
    have n1 := (R 1 (by omega)).2.1
    obtain ⟨h2, e2, g1, ⟨x1, x2, x3, x8, x9, x10, x11, x12⟩, y1, y2, y3⟩ := X_begin V R
    obtain ⟨m2, e3, k1, k2, k3, k4⟩ := M_sw36 m1
    have hw : ∀ j, j < 404 → m2.1 1 j = m1.1 1 j := fun j hj => k2 j (by omega) (by omega)
    obtain ⟨m3, e4, q1, q2, q3, q4, q5, q6, q7, q8, q9⟩ := M_sw67 (m := m2) (w := m1.1 1) hw R ⟨k3 616 (by omega) (by omega), fun k hk => by omega⟩ (k3 617 (by omega) (by omega)) (k3 618 (by omega) (by omega)) (k3 615 (by omega) (by omega))
    rw [e2, e3, e4]
    simp only [Option.bind_some]
    rw [x1]
    have wr : ∀ j, j < 614 → m3.1 1 j = m1.1 1 j := fun j hj => by rw [q2 j (by omega) (by omega) (by omega) (by omega) (by omega), k2 j (by omega) (by omega)]
    have EV := EE_evs R
    have g : grow (m1.1 1) (m3.1 1) := grow.of R (fun j _ hj => wr j (by omega))
    have pe : ∀ k, k < 2 * (nS (m1.1 1) 0 + nS (m1.1 1) 1) → evC (m3.1 1) (EE (m1.1 1) k) = evC (m1.1 1) (EE (m1.1 1) k) ∧ ruE (m3.1 1) (EE (m1.1 1) k) = ruE (m1.1 1) (EE (m1.1 1) k) := fun k hk => by
      obtain ⟨a1, a2⟩ := EV.1 k hk
      have f := (g _ (sE_lt a1)).2
      unfold evC ruE plE sp ep
      rw [f _ 0 a2 (by omega), f _ 2 a2 (by omega), f _ 3 a2 (by omega)]
      exact ⟨rfl, rfl⟩
    refine ⟨h2, m3, _, rfl, rfl, ⟨(V.cgt (fun c a b => g1 c (by omega) (by omega) (by omega) (by omega) (by omega))).cgw R (fun j hj => wr j (by omega)), R.cgw (fun j _ hj => wr j (by omega)), by rw [wr 0 (by omega), wr 1 (by omega)]; exact U1.2.2.1, (U1.2.2.2.1.cgt (fun c a b => g1 c (by omega) (by omega) (by omega) (by omega) (by omega))).cgw (fun j a b => wr j (by omega)), ?_, ?_⟩, ?_, ?_⟩
    · exact TV.cgw (w := m1.1 1) ⟨0, by omega, by rw [g1 _ (by omega) (by omega) (by omega) (by omega) (by omega)]; exact T1.2.1, T1.2.2.1, fun i hi => by omega⟩ (fun j a b => wr j (by omega))
    · refine ⟨2 * (nS (m1.1 1) 0 + nS (m1.1 1) 1), 0, 0, EE (m1.1 1), fun _ => 0, fun _ _ => 0, ⟨by omega, by omega, ?_⟩, ⟨fun k hk => ⟨(EV.1 k hk).1, Nat.lt_of_lt_of_le (EV.1 k hk).2 (g _ (sE_lt (EV.1 k hk).1)).1⟩, EV.2⟩, fun s hs => ⟨fun i hi => absurd hi (Nat.not_lt_zero _), fun i j hi => absurd hi (Nat.not_lt_zero _), fun r hr => ⟨fun ⟨i, hi, _⟩ => absurd hi (Nat.not_lt_zero _), fun ⟨⟨k, hk, _⟩, _⟩ => absurd hk (Nat.not_lt_zero _)⟩⟩, by omega, ⟨?_, q4, q5, fun s hs => ⟨?_, fun i hi => absurd hi (Nat.not_lt_zero _)⟩, ?_⟩, ⟨x1, x2, ?_, x8, ?_, ?_, ?_, ?_⟩, fun k hk => ?_, fun s hs => ⟨y2 s hs, fun i hi => absurd hi (Nat.not_lt_zero _)⟩, fun u hu => ?_, fun i hi => absurd hi (Nat.not_lt_zero _)⟩
      · rw [q3]
        by_cases y : 2 * (nS (m1.1 1) 0 + nS (m1.1 1) 1) ≤ 0
        · rw [if_pos y]; exact Or.inl rfl
        · rw [if_neg y]; exact Or.inr ⟨rfl, by omega⟩
      · rw [q2 615 (by omega) (by omega) (by omega) (by omega) (by omega)]; exact k3 615 (by omega) (by omega)
      · rcases (show s = 0 ∨ s = 1 by omega) with y | y
        · subst y; exact q6
        · subst y; exact q7
      · rw [q2 863 (by omega) (by omega) (by omega) (by omega) (by omega)]; exact k4
      · exact x3.trans q3.symm
      · exact x9.trans q8.symm
      · exact x10.trans q9.symm
      · exact x11.trans (by rw [q2 619 (by omega) (by omega) (by omega) (by omega) (by omega)]; exact (k3 619 (by omega) (by omega)).symm)
      · exact x12.trans (by rw [q2 620 (by omega) (by omega) (by omega) (by omega) (by omega)]; exact (k3 620 (by omega) (by omega)).symm)
      · rw [(pe k hk).1]; exact y1 k hk
      · refine (y3 u hu).trans (congrArg nI ?_)
        exact cN_congr _ (fun k hk => by rw [(pe k hk).2])
    · exact X1.net.tr ⟨g1 29 (by omega) (by omega) (by omega) (by omega) (by omega), g1 30 (by omega) (by omega) (by omega) (by omega) (by omega), g1 31 (by omega) (by omega) (by omega) (by omega) (by omega)⟩
    · exact M1.net.tr ⟨fun k hk => by rw [q2 _ (by omega) (by omega) (by omega) (by omega) (by omega), k2 _ (by omega) (by omega)], by rw [q1 2 (by decide), k1 2 (by decide)], by rw [q1 0 (by decide), k1 0 (by decide)], by rw [q1 9 (by decide), k1 9 (by decide)], by rw [q1 0 (by decide), k1 0 (by decide)]⟩
  · obtain ⟨h2, m2, e2, e3, T2, X2, M2⟩ := because_both T1 (by omega) 8 (m1.1 1 615)
    rw [z, if_neg one0, if_pos rfl]
    simp only [Option.bind_some]
    rw [if_neg one0, r3, e2, e3]
    exact ⟨h2, m2, -1, rfl, rfl, (U1.cgt X2 M2).rt T2.tv, X1.net.tr X2.net, M1.net.tr M2.net⟩
