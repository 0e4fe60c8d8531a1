/-! step: so many events -/
set_option maxHeartbeats 400000 in
theorem step_last {h m hx mx : HP} {v1 : Int32} {k : Int32} (S : RT h 1 (m.1 1)) (a : f_TJ_step_b34 0 h v1 23 k k = some (Sum.inr (h, k))) (b : f_Mo_step_b22 0 m v1 k = some (Sum.inr (m, k))) : AlikeS h m (f_TJ_step_l34 0 hx v1 23 (h, k, k)) (f_Mo_step_l22 0 mx v1 (m, k)) := by
  have e1 : f_TJ_step_l34 0 hx v1 23 (h, k, k) = some (h, k) := loop_inr a
  have e2 : f_Mo_step_l22 0 mx v1 (m, k) = some (m, k) := loop_inr b
  rw [e1, e2]; exact ⟨h, m, k, rfl, rfl, S, keepNet.rf, keepMN.rf⟩
set_option maxHeartbeats 400000 in
theorem step_next {h m h' m' hx mx : HP} {v1 : Int32} {k k' : Int32} (kx : keepNet h h') (km : keepMN m m') (a : f_TJ_step_b34 0 h v1 23 k k = some (Sum.inl (h', k', k'))) (b : f_Mo_step_b22 0 m v1 k = some (Sum.inl (m', k'))) (p : AlikeS h' m' (f_TJ_step_l34 0 hx v1 23 (h', k', k')) (f_Mo_step_l22 0 mx v1 (m', k'))) : AlikeS h m (f_TJ_step_l34 0 hx v1 23 (h, k, k)) (f_Mo_step_l22 0 mx v1 (m, k)) := by
  have e1 : f_TJ_step_l34 0 hx v1 23 (h, k, k) = f_TJ_step_l34 0 hx v1 23 (h', k', k') := loop_inl a
  have e2 : f_Mo_step_l22 0 mx v1 (m, k) = f_Mo_step_l22 0 mx v1 (m', k') := loop_inl b
  rw [e1, e2]
  obtain ⟨h2, m2, r, x, y, z, u, v⟩ := p
  exact ⟨h2, m2, r, x, y, z, kx.tr u, km.tr v⟩
set_option maxHeartbeats 400000 in
theorem step_loop {N : Nat} (hN : N ≤ 160) (hx mx : HP) : ∀ d k h m, k + d = N → RT h 1 (m.1 1) → AlikeS h m (f_TJ_step_l34 0 hx (nI N) 23 (h, nI k, nI k)) (f_Mo_step_l22 0 mx (nI N) (m, nI k))
  | 0, k, h, m, hd, S => by
    have e : k = N := by omega
    subst e
    refine step_last S ?_ ?_
    · unfold f_TJ_step_b34; rw [if_pos (nle _)]; rfl
    · unfold f_Mo_step_b22; rw [if_pos (nle _)]; rfl
  | d + 1, k, h, m, hd, S => by
    obtain ⟨r1, r2, r3⟩ := S.2.2.2.2.2.run
    have nk : ¬ nI N ≤ nI k := nI_ge (by omega) (by omega)
    rcases r2 with z | z
    · refine step_last S ?_ ?_
      · unfold f_TJ_step_b34; rw [if_neg nk, r1, z, if_pos rfl]; rfl
      · unfold f_Mo_step_b22 f_Mo_isSweeping
        simp only [Nat.zero_add, ix614]
        rw [if_neg nk, z, if_neg (by decide)]; rfl
    · obtain ⟨h', m', e1, e2, S', kx, km⟩ := event_both S z
      refine step_next kx km ?_ ?_ (step_loop hN hx mx d (k + 1) h' m' (by omega) S')
      · unfold f_TJ_step_b34
        rw [if_neg nk, r1, z, if_neg one0, e1, nI_1]; rfl
      · unfold f_Mo_step_b22 f_Mo_isSweeping
        simp only [Nat.zero_add, ix614]
        rw [if_neg nk, z, if_pos rfl]
        simp only [Option.bind_some]
        rw [if_neg one0, e2, nI_1]; rfl
set_option maxHeartbeats 400000 in
theorem q_step {h m : HP} (S : RT h 1 (m.1 1)) (v1 : Int32) : AlikeS h m (f_TJ_step 0 h v1) (f_Mo_step 0 m v1) := by
  obtain ⟨r1, r2, r3⟩ := S.2.2.2.2.2.run
  unfold f_TJ_step f_Mo_step f_Mo_isSweeping
  simp only [Nat.zero_add, Nat.reduceAdd, ix614]
  rw [M_isIn, r1]
  simp only [Option.bind_some]
  have out : AlikeS h m (some (h, -1)) (some (m, -1)) := ⟨h, m, -1, rfl, rfl, S, keepNet.rf, keepMN.rf⟩
  by_cases a : v1 < 1
  · rw [if_pos a, if_neg (show ¬ (1 ≤ v1 ∧ v1 ≤ 160) from fun z => absurd z.1 (Int32.not_le.mpr a)), if_pos rfl]; exact out
  · rw [if_neg a]
    by_cases b : 160 < v1
    · rw [if_pos b, if_neg (show ¬ (1 ≤ v1 ∧ v1 ≤ 160) from fun z => absurd z.2 (Int32.not_le.mpr b)), if_pos rfl]; exact out
    · rw [if_neg b, if_pos (show 1 ≤ v1 ∧ v1 ≤ 160 from ⟨Int32.not_lt.mp a, Int32.not_lt.mp b⟩), if_neg one0]
      rcases r2 with z | z
      · rw [z, if_pos rfl, if_neg (by decide)]; exact out
      · rw [z, if_neg one0, if_pos rfl]
        simp only [Option.bind_some]
        rw [if_neg one0]
        obtain ⟨N, hN, rfl⟩ := nI_of (x := v1) (fun y => a (Int32.lt_trans y (by decide)))
        have h160 : N ≤ 160 := by
          rcases Nat.lt_or_ge 160 N with y | y
          · exact absurd (nI_lt y hN) b
          · exact y
        exact step_loop h160 h m N 0 h m (by omega) S
