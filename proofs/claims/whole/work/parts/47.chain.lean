/-! chain: rows of a key by their ends, each behind the one before -/
def chL (S E : Nat → Int32) : Nat → Int32
  | 0 => -2000000
  | t + 1 => if S t < chL S E t then chL S E t else E t
def chT (S E : Nat → Int32) (t : Nat) : Bool := !decide (S t < chL S E t)
noncomputable def chB (S E : Nat → Int32) (j : Nat) : Int32 := if j = 0 then -2000000 else E (nth (chT S E) (j - 1))
set_option maxHeartbeats 400000 in
theorem chL_B (S E : Nat → Int32) : ∀ t, chL S E t = chB S E (cN (chT S E) t)
  | 0 => by simp [chL, chB, cN]
  | t + 1 => by
    have ih := chL_B S E t
    simp only [chL, cN]
    by_cases z : S t < chL S E t
    · have k : chT S E t = false := by simp [chT, z]
      rw [if_pos z, k]; simpa using ih
    · have k : chT S E t = true := by simp only [chT, decide_eq_false z]; rfl
      rw [if_neg z, k, if_pos rfl]
      unfold chB
      rw [if_neg (by omega), Nat.add_sub_cancel, nth_at k]
set_option maxHeartbeats 400000 in
theorem chL_S {S E : Nat → Int32} {n : Nat} (hSE : ∀ t, t < n → S t < E t) : ∀ t, t ≤ n → ∀ u, u < t → S u < chL S E t
  | 0, _, u, h => by omega
  | t + 1, ht, u, hu => by
    have ih := chL_S hSE t (by omega)
    have hst := hSE t (by omega)
    simp only [chL]
    by_cases z : S t < chL S E t
    · rw [if_pos z]
      rcases (show u < t ∨ u = t by omega) with y | y
      · exact ih u y
      · rw [y]; exact z
    · rw [if_neg z]
      rcases (show u < t ∨ u = t by omega) with y | y
      · exact Int32.lt_trans (Int32.lt_of_lt_of_le (ih u y) (Int32.not_lt.mp z)) hst
      · rw [y]; exact hst
set_option maxHeartbeats 400000 in
theorem cd_le {pl : Nat → Int32} {a b : Nat} (ha : a < 64) (hb : b < 64) (r1 : -2000000 ≤ (pl a).toInt) (r2 : -2000000 ≤ (pl b).toInt) (h : cdN pl a ≤ cdN pl b) : pl a < pl b ∨ (pl a = pl b ∧ a ≤ b) := by
  unfold cdN pN at h
  rw [Int32.lt_iff_toInt_lt, ← Int32.toInt_inj]
  omega
set_option maxHeartbeats 400000 in
theorem nth_cN {p : Nat → Bool} {c n : Nat} (h : c < cN p n) : nth p c < n ∧ p (nth p c) = true ∧ cN p (nth p c) = c := by
  obtain ⟨k, hk, pk, ek⟩ := cN_sur h
  rw [← ek, nth_at pk]; exact ⟨hk, pk, rfl⟩
section CH
variable {h m : HP} {w : Nat → Int32} {s n : Nat} {q : Nat → Nat} {p : Nat → Bool} {v3 : Int32}
set_option maxHeartbeats 400000 in
theorem RL.lt (L : RL h n q p (ep w s) (nS w s)) {t : Nat} (ht : t < n) : q t < nS w s := (L.2.1 t ht).1
set_option maxHeartbeats 400000 in
theorem X_chb (V : RV h (rc 1 s) w s (nS w s)) (L : RL h n q p (ep w s) (nS w s)) {t : Nat} (ht : t < n) (v3 v5 v6 : Int32) : f_TJ_chain_b108 0 h v3 (rc 1 s) v5 v6 (nI t) = if sp w s (q t) < v6 then some (Sum.inl (v5, v6, nI (t + 1))) else if v5 = v3 then some (Sum.inr (h, nI (q t))) else some (Sum.inl (v5 + 1, ep w s (q t), nI (t + 1))) := by
  have hn := L.1.1
  have hq := RL.lt L ht
  have h40 := V.1
  have e : Int64.toInt32 (lN (cdN (ep w s) (q t)) &&& 63) = nI (q t) := by
    rw [lN_and, show cdN (ep w s) (q t) % 64 = q t by unfold cdN; omega, lN_32 (by omega)]
  unfold f_TJ_chain_b108
  rw [Nat.zero_add, L.1.2.1, if_neg (nI_ge ht (by omega)), X_cat L.1 ht]
  simp only [Option.bind_some]
  rw [e, X_start V hq, X_end V hq]
  simp only [Option.bind_some, Option.map_some, nI_1]
set_option maxHeartbeats 400000 in
theorem X_chA (V : RV h (rc 1 s) w s (nS w s)) (L : RL h n q p (ep w s) (nS w s)) {c : Nat} (hc : c < cN (chT (fun t => sp w s (q t)) (fun t => ep w s (q t))) n) : f_TJ_chain_l108 0 h (nI c) (rc 1 s) (0, -2000000, 0) = some (h, nI (q (nth (chT (fun t => sp w s (q t)) (fun t => ep w s (q t))) c))) := by
  have hn := L.1.1
  generalize hT : chT (fun t => sp w s (q t)) (fun t => ep w s (q t)) = T at *
  obtain ⟨h1, h2, h3⟩ := nth_cN hc
  generalize hK : nth T c = K at *
  have tk : ∀ t, T t = true ↔ ¬ sp w s (q t) < chL (fun t => sp w s (q t)) (fun t => ep w s (q t)) t := fun t => by rw [← hT]; simp [chT]
  unfold f_TJ_chain_l108
  refine loop_up (fun t => (nI (cN T t), chL (fun t => sp w s (q t)) (fun t => ep w s (q t)) t, nI t)) K (fun t ht => ?_) ?_
  · show f_TJ_chain_b108 0 h (nI c) (rc 1 s) (nI (cN T t)) (chL (fun t => sp w s (q t)) (fun t => ep w s (q t)) t) (nI t) = _
    rw [X_chb V L (by omega)]
    simp only [chL, cN]
    by_cases z : sp w s (q t) < chL (fun t => sp w s (q t)) (fun t => ep w s (q t)) t
    · have : T t = false := by
        rw [← Bool.not_eq_true, tk]; exact fun y => y z
      rw [if_pos z, if_pos z, this]; rfl
    · have y : T t = true := (tk t).mpr z
      have hlt := cN_lt ht y
      have := cN_le T t
      have := cN_le T n
      rw [if_neg z, if_neg z, y, if_neg (fun e => absurd ((nI_eq (by omega) (by omega)).mp e) (by omega)), nI_1]
      rfl
  · show f_TJ_chain_b108 0 h (nI c) (rc 1 s) (nI (cN T K)) (chL (fun t => sp w s (q t)) (fun t => ep w s (q t)) K) (nI K) = _
    rw [X_chb V L h1, if_neg ((tk K).mp h2), h3, if_pos rfl]
set_option maxHeartbeats 400000 in
theorem X_chBB (V : RV h (rc 1 s) w s (nS w s)) (L : RL h n q p (ep w s) (nS w s)) (hc : ∀ c, c < cN (chT (fun t => sp w s (q t)) (fun t => ep w s (q t))) n → v3 ≠ nI c) : f_TJ_chain_l108 0 h v3 (rc 1 s) (0, -2000000, 0) = some (h, if v3 = -1 then nI (cN (chT (fun t => sp w s (q t)) (fun t => ep w s (q t))) n) else -1) := by
  have hn := L.1.1
  generalize hT : chT (fun t => sp w s (q t)) (fun t => ep w s (q t)) = T at *
  have tk : ∀ t, T t = true ↔ ¬ sp w s (q t) < chL (fun t => sp w s (q t)) (fun t => ep w s (q t)) t := fun t => by rw [← hT]; simp [chT]
  unfold f_TJ_chain_l108
  refine loop_up (fun t => (nI (cN T t), chL (fun t => sp w s (q t)) (fun t => ep w s (q t)) t, nI t)) n (fun t ht => ?_) ?_
  · show f_TJ_chain_b108 0 h v3 (rc 1 s) (nI (cN T t)) (chL (fun t => sp w s (q t)) (fun t => ep w s (q t)) t) (nI t) = _
    rw [X_chb V L (by omega)]
    simp only [chL, cN]
    by_cases z : sp w s (q t) < chL (fun t => sp w s (q t)) (fun t => ep w s (q t)) t
    · have : T t = false := by
        rw [← Bool.not_eq_true, tk]; exact fun y => y z
      rw [if_pos z, if_pos z, this]; rfl
    · have y : T t = true := (tk t).mpr z
      have hlt := cN_lt ht y
      rw [if_neg z, if_neg z, y, if_neg (fun e => hc _ hlt e.symm), nI_1]
      rfl
  · show f_TJ_chain_b108 0 h v3 (rc 1 s) (nI (cN T n)) (chL (fun t => sp w s (q t)) (fun t => ep w s (q t)) n) (nI n) = _
    unfold f_TJ_chain_b108
    rw [Nat.zero_add, L.1.2.1, if_pos (nle _)]
    split <;> rfl
set_option maxHeartbeats 400000 in
theorem M_pick {v2 v4 v5 : Int32} {ok : Nat → Bool} (hw : m.1 1 = w) (R : RowsOk w) (hs : s < 2) (hv : v4 = -1 ∨ ∃ r, r < 40 ∧ v4 = nI r) (hok : ∀ o, o < nS w s → ok o = (decide (fld w s o 1 = v2) && (decide (v4 = -1) || decide (ep w s (ix v4) ≤ sp w s o)))) {v6 : Int32} (h6 : fI (mnst ok (ep w s)) (nS w s) (-1) = v6) : f_Mo_chain_l28 0 m (nI s) v2 v3 v4 v5 (-1, 0) = some (if v6 = -1 then Sum.inr (if v3 = -1 then v5 else -1) else if v5 = v3 then Sum.inr v6 else Sum.inl (v6, v5 + 1)) := by
  have hn := (R s hs).2.1
  unfold f_Mo_chain_l28
  refine loop_up (fun i => (fI (mnst ok (ep w s)) i (-1), nI i)) (nS w s) (fun i hi => ?_) ?_
  · show f_Mo_chain_b28 0 m (nI s) v2 v3 v4 v5 (fI (mnst ok (ep w s)) i (-1)) (nI i) = some (Sum.inl (mnst ok (ep w s) i (fI (mnst ok (ep w s)) i (-1)), nI (i + 1)))
    have sh := mn_spec ok (ep w s) i (by omega)
    generalize fI (mnst ok (ep w s)) i (-1) = x at *
    have j79 : f_Mo_chain_j79 0 m (nI s) v2 v3 v4 v5 x (nI i) = some (Sum.inl (if x = -1 then nI i else if ep w s (ix x) ≤ ep w s i then x else nI i, nI (i + 1))) := by
      unfold f_Mo_chain_j79
      rw [nI_1]
      rcases sh with ⟨e, -⟩ | ⟨o, ho, e, -⟩
      · rw [if_pos e, if_pos e]
      · rw [e, if_neg (nI_m1 (by omega)), if_neg (nI_m1 (by omega)), M_end (h := m) hs (show i < 40 by omega) rfl rfl, M_end (h := m) hs (show o < 40 by omega) rfl rfl, hw, ix_nI (by omega)]
        simp only [Option.bind_some]
        split <;> rfl
    unfold f_Mo_chain_b28
    rw [if_pos (many_ix hs rfl).1, (many_ix hs rfl).2, Nat.zero_add, hw, (R s hs).1, if_neg (ngt hi hn), M_of (h := m) hs (show i < 40 by omega) (k := 1) (v3 := 1) (by omega) rfl rfl rfl, M_start (h := m) hs (show i < 40 by omega) rfl rfl, j79, hw, nI_1]
    simp only [Option.bind_some]
    unfold mnst
    rw [hok i hi]
    by_cases k : fld w s i 1 = v2
    · rw [if_pos k, decide_eq_true k, Bool.true_and]
      rcases hv with e | ⟨r, hr, e⟩
      · rw [if_pos e, decide_eq_true e, Bool.true_or, if_pos rfl]
      · have ne : ¬ v4 = -1 := by rw [e]; exact nI_m1 (by omega)
        rw [if_neg ne, decide_eq_false ne, Bool.false_or, e, M_end (h := m) hs hr rfl rfl, hw, ix_nI (by omega)]
        simp only [Option.bind_some, decide_eq_true_eq]
        by_cases z : ep w s r ≤ sp w s i
        · rw [if_pos z, if_pos z]
        · rw [if_neg z, if_neg z]
    · rw [if_neg k, decide_eq_false k, Bool.false_and]; rfl
  · show f_Mo_chain_b28 0 m (nI s) v2 v3 v4 v5 (fI (mnst ok (ep w s)) (nS w s) (-1)) (nI (nS w s)) = _
    rw [h6]
    unfold f_Mo_chain_b28
    rw [if_pos (many_ix hs rfl).1, (many_ix hs rfl).2, Nat.zero_add, hw, (R s hs).1, if_pos (nle _)]
    by_cases a : v6 = -1
    · rw [if_pos a, if_pos a]; split <;> rfl
    · rw [if_neg a, if_neg a]; split <;> rfl
set_option maxHeartbeats 400000 in
theorem ch_pick (R : RowsOk w) (hs : s < 2) (L : RL h n q p (ep w s) (nS w s)) {j : Nat} (hj : j ≤ cN (chT (fun t => sp w s (q t)) (fun t => ep w s (q t))) n) : fI (mnst (fun o => p o && decide (chB (fun t => sp w s (q t)) (fun t => ep w s (q t)) j ≤ sp w s o)) (ep w s)) (nS w s) (-1) = if j < cN (chT (fun t => sp w s (q t)) (fun t => ep w s (q t))) n then nI (q (nth (chT (fun t => sp w s (q t)) (fun t => ep w s (q t))) j)) else -1 := by
  have hN := (R s hs).2.1
  have SE : ∀ t, t < n → sp w s (q t) < ep w s (q t) := fun t ht => sp_lt_ep R hs (RL.lt L ht)
  have LS := chL_S (S := fun t => sp w s (q t)) (E := fun t => ep w s (q t)) (n := n) SE
  have LB := chL_B (fun t => sp w s (q t)) (fun t => ep w s (q t))
  generalize hT : chT (fun t => sp w s (q t)) (fun t => ep w s (q t)) = T at *
  have tk : ∀ t, T t = true ↔ ¬ sp w s (q t) < chL (fun t => sp w s (q t)) (fun t => ep w s (q t)) t := fun t => by rw [← hT]; simp [chT]
  rcases mn_spec (fun o => p o && decide (chB (fun t => sp w s (q t)) (fun t => ep w s (q t)) j ≤ sp w s o)) (ep w s) (nS w s) (by omega) with ⟨e, no⟩ | ⟨o, ho, e, ok, le⟩
  · rw [e]
    by_cases z : j < cN T n
    · exfalso
      obtain ⟨h1, h2, h3⟩ := nth_cN z
      have a := no _ (RL.lt L h1)
      have b := LB (nth T j)
      rw [h3] at b
      rw [(L.2.1 _ h1).2, ← b, Bool.true_and] at a
      exact (of_decide_eq_false a) (Int32.not_lt.mp ((tk _).mp h2))
    · rw [if_neg z]
  · rw [e]
    simp only [Bool.and_eq_true, decide_eq_true_eq] at ok
    obtain ⟨i, hi, rfl⟩ := L.2.2.2 o ho ok.1
    by_cases z : j < cN T n
    · obtain ⟨h1, h2, h3⟩ := nth_cN z
      have b := LB (nth T j)
      rw [h3] at b
      have ge : nth T j ≤ i := by
        rcases Nat.lt_or_ge i (nth T j) with y | y
        · have := LS (nth T j) (by omega) i y
          rw [b] at this
          exact absurd ok.2 (Int32.not_le.mpr this)
        · exact y
      have l1 := le (q (nth T j)) (RL.lt L h1) (by
        simp only [Bool.and_eq_true, decide_eq_true_eq]
        rw [← b]
        exact ⟨(L.2.1 _ h1).2, Int32.not_lt.mp ((tk _).mp h2)⟩)
      rw [if_pos z]
      rcases Nat.eq_or_lt_of_le ge with y | y
      · rw [y]
      · exfalso
        have c1 := L.2.2.1 _ _ y hi
        have q1 := RL.lt L h1
        have q2 := RL.lt L hi
        have c2 := cd_le (pl := ep w s) (show q (nth T j) < 64 by omega) (show q i < 64 by omega) (by have := sp_rng R hs q1; omega) (by have := sp_rng R hs q2; omega) (Nat.le_of_lt c1)
        rcases c2 with c2 | ⟨c2, c3⟩ <;> rcases l1 with l1 | ⟨l1, l2⟩
        · exact Int32.lt_asymm c2 l1
        · rw [l1] at c2; exact Int32.lt_irrefl c2
        · rw [c2] at l1; exact Int32.lt_irrefl l1
        · have : q (nth T j) = q i := by omega
          rw [this] at c1; omega
    · exfalso
      have jj : j = cN T n := by omega
      have := LS n (Nat.le_refl n) i hi
      rw [LB n, ← jj] at this
      exact absurd ok.2 (Int32.not_le.mpr this)
end CH
