/-! swept, look: heads by counts and by bits -/
set_option maxHeartbeats 400000 in
theorem ev_st {e : Nat} (he : e < 160) : f_Mo_isStart (nI e) = some (if e % 2 = 1 then 1 else 0) := by
  unfold f_Mo_isStart
  rw [show (2 : Int32) = nI 2 from rfl, nI_div (by omega) (by omega) (by omega), pk_mul, pk_sub (by omega)]
  by_cases z : e % 2 = 1
  · rw [if_pos z, show e - e / 2 * 2 = 1 by omega, if_pos (show nI 1 = 1 from rfl)]
  · rw [if_neg z, show e - e / 2 * 2 = 0 by omega, if_neg (by decide)]
set_option maxHeartbeats 400000 in
theorem ev_sd {e : Nat} (he : e < 160) : f_Mo_sideOf (nI e) = some (nI (sE e)) := by
  unfold f_Mo_sideOf sE
  rw [show (2 : Int32) = nI 2 from rfl, nI_div (by omega) (by omega) (by omega), show (40 : Int32) = nI 40 from rfl, nI_div (by omega) (by omega) (by omega)]
set_option maxHeartbeats 400000 in
theorem ev_rw {e : Nat} (he : e < 160) : f_Mo_rowOf (nI e) = some (nI (rE e)) := by
  unfold f_Mo_rowOf rE
  rw [show (2 : Int32) = nI 2 from rfl, nI_div (by omega) (by omega) (by omega), show (40 : Int32) = nI 40 from rfl, nI_div (by omega) (by omega) (by omega), pk_mul, pk_sub (by omega)]
  congr 2
  omega
set_option maxHeartbeats 400000 in
theorem sE_lt {e : Nat} (he : e < 160) : sE e < 2 := by unfold sE; omega
set_option maxHeartbeats 400000 in
theorem rE_lt (e : Nat) : rE e < 40 := by unfold rE; omega
set_option maxHeartbeats 400000 in
theorem ruE_lt {w : Nat → Int32} (R : RowsOk w) {e : Nat} (he : e < 160) (hr : rE e < nS w (sE e)) : ruE w e < 8 ∧ fld w (sE e) (rE e) 0 = nI (ix (fld w (sE e) (rE e) 0)) ∧ ix (fld w (sE e) (rE e) 0) < 4 := by
  have rk := ((R (sE e) (sE_lt he)).2.2 (rE e) hr).1
  obtain ⟨j, hj, ej⟩ := nI_of (x := fld w (sE e) (rE e) 0) (Int32.not_lt.mpr rk.1)
  have hs := sE_lt he
  have j3 : j ≤ 3 := by
    rcases Nat.lt_or_ge 3 j with z | z
    · have := rk.2; rw [ej] at this; exact absurd this (nI_ge (b := j) (a := 3) z hj)
    · exact z
  unfold ruE
  rw [ej, ix_nI hj]
  exact ⟨by omega, rfl, by omega⟩
/-- bits of an int -/
def orI (ru : Nat → Nat) (p : Nat → Bool) : Nat → Nat
  | 0 => 0
  | k + 1 => if p k then orI ru p k ||| 2 ^ ru k else orI ru p k
set_option maxHeartbeats 400000 in
theorem orI_lt {ru : Nat → Nat} {p : Nat → Bool} : ∀ n, (∀ k, k < n → p k = true → ru k < 8) → orI ru p n < 2 ^ 8
  | 0, _ => by simp [orI]
  | n + 1, h => by
    have ih := orI_lt (p := p) n (fun u hu => h u (by omega))
    simp only [orI]; split
    · rename_i z
      exact Nat.or_lt_two_pow ih (Nat.pow_lt_pow_right (by decide) (h n (by omega) z))
    · exact ih
set_option maxHeartbeats 400000 in
theorem orI_bit {ru : Nat → Nat} {p : Nat → Bool} (c : Nat) : ∀ n, (orI ru p n).testBit c = anyN (fun k => p k && decide (ru k = c)) n
  | 0 => by simp [orI, anyN]
  | n + 1 => by
    have ih := orI_bit (ru := ru) (p := p) c n
    simp only [orI, anyN]
    by_cases z : p n = true
    · rw [if_pos z, Nat.testBit_or, ih, Nat.testBit_two_pow, z, Bool.true_and]
    · rw [if_neg z, ih, Bool.eq_false_iff.mpr z, Bool.false_and, Bool.or_false]
set_option maxHeartbeats 400000 in
theorem one_shl : ∀ k, k < 8 → (1 : Int32) <<< (nI k &&& 31) = nI (2 ^ k) := by decide +kernel
set_option maxHeartbeats 400000 in
theorem nI_or {a b : Nat} (ha : a < 2 ^ 32) (hb : b < 2 ^ 32) : nI a ||| nI b = nI (a ||| b) := by
  apply Int32.toBitVec_inj.mp
  rw [Int32.toBitVec_or]
  apply BitVec.eq_of_toNat_eq
  rw [BitVec.toNat_or]
  show (BitVec.ofNat 32 a).toNat ||| (BitVec.ofNat 32 b).toNat = (BitVec.ofNat 32 (a ||| b)).toNat
  rw [BitVec.toNat_ofNat, BitVec.toNat_ofNat, BitVec.toNat_ofNat, Nat.mod_eq_of_lt ha, Nat.mod_eq_of_lt hb, Nat.mod_eq_of_lt (Nat.or_lt_two_pow ha hb)]
set_option maxHeartbeats 400000 in
theorem bit8 : ∀ a, a < 256 → ∀ c, c < 8 → ((nI a >>> (nI c &&& 31)) &&& 1) = if a.testBit c then 1 else 0 := by decide +kernel
/-- the runs with starts to come -/
def hdB (w : Nat → Int32) (G T : Nat) (E : Nat → Nat) (u : Nat) : Bool := anyN (fun k => decide (G ≤ k) && (decide (E k % 2 = 1) && decide (ruE w (E k) = u))) T
section HD
variable {h m : HP} {w : Nat → Int32} {T G : Nat} {E : Nat → Nat}
set_option maxHeartbeats 400000 in
theorem M_heads (hw : m.1 1 = w) (R : RowsOk w) (hT : T ≤ 160) (hG : G ≤ T) (EV : EVs w T E) (e1 : w 615 = nI G) (e2 : w 616 = nI T) (e3 : ∀ k, k < T → w (621 + k) = nI (E k)) : f_Mo_heads 0 m = some (nI (cN (hdB w G T E) 8)) := by
  unfold f_Mo_heads f_Mo_heads_l11
  rw [Nat.zero_add, ix615, hw, e1]
  have hx : ∀ t, t ≤ T - G → orI (fun k => ruE w (E (G + k))) (fun k => decide (E (G + k) % 2 = 1)) t < 2 ^ 8 := fun t ht => orI_lt t (fun k hk _ => (ruE_lt R (EV.1 (G + k) (by omega)).1 (EV.1 (G + k) (by omega)).2).1)
  refine loop_up (fun t => (nI (orI (fun k => ruE w (E (G + k))) (fun k => decide (E (G + k) % 2 = 1)) t), nI (G + t))) (T - G) (fun t ht => ?_) ?_
  · show f_Mo_heads_b11 0 m (nI (orI (fun k => ruE w (E (G + k))) (fun k => decide (E (G + k) % 2 = 1)) t)) (nI (G + t)) = some (Sum.inl (nI (orI (fun k => ruE w (E (G + k))) (fun k => decide (E (G + k) % 2 = 1)) (t + 1)), nI (G + (t + 1))))
    have ev := EV.1 (G + t) (by omega)
    have hs := sE_lt ev.1
    have r4 := rE_lt (E (G + t))
    obtain ⟨u1, u2, u3⟩ := ruE_lt R ev.1 ev.2
    have o1 := hx t (by omega)
    unfold f_Mo_heads_b11
    rw [Nat.zero_add, ix616, hw, e2, if_neg (nI_ge (show G + t < T by omega) (by omega)), show (621 : Int32) + nI (G + t) = nI (621 + (G + t)) from nI_add 621 (G + t), if_pos (inb_nI (by omega) (by decide)), ix_nI (by omega), e3 (G + t) (by omega), ev_st ev.1, ev_sd ev.1, ev_rw ev.1, nI_1]
    simp only [Option.bind_some]
    rw [M_of (h := m) hs r4 (k := 0) (v3 := 0) (by omega) rfl rfl rfl, hw, u2]
    simp only [Option.bind_some, orI, decide_eq_true_eq]
    by_cases z : E (G + t) % 2 = 1
    · rw [if_pos z, if_neg one0, if_pos z, show (4 : Int32) * nI (sE (E (G + t))) = nI (4 * sE (E (G + t))) from pk_mul 4 _, nI_add, show 4 * sE (E (G + t)) + ix (fld w (sE (E (G + t))) (rE (E (G + t))) 0) = ruE w (E (G + t)) from rfl, one_shl _ u1, nI_or (by omega) (Nat.lt_trans (Nat.pow_lt_pow_right (by decide) u1) (by decide))]
      rfl
    · rw [if_neg z, if_pos rfl, if_neg z]
      rfl
  · show f_Mo_heads_b11 0 m (nI (orI (fun k => ruE w (E (G + k))) (fun k => decide (E (G + k) % 2 = 1)) (T - G))) (nI (G + (T - G))) = _
    have o1 := hx (T - G) (by omega)
    have same : ∀ u, u < 8 → (orI (fun k => ruE w (E (G + k))) (fun k => decide (E (G + k) % 2 = 1)) (T - G)).testBit u = hdB w G T E u := by
      intro u hu
      rw [orI_bit]
      unfold hdB
      have eq : ∀ {a b : Bool}, (a = true ↔ b = true) → a = b := fun {a b} h => by cases a <;> cases b <;> simp_all
      refine eq ?_
      rw [anyN_iff, anyN_iff]
      constructor
      · rintro ⟨k, hk, z⟩
        refine ⟨G + k, by omega, ?_⟩
        rw [decide_eq_true (show G ≤ G + k by omega), Bool.true_and]; exact z
      · rintro ⟨k, hk, z⟩
        simp only [Bool.and_eq_true, decide_eq_true_eq] at z
        refine ⟨k - G, by omega, ?_⟩
        rw [show G + (k - G) = k by omega]
        simp only [Bool.and_eq_true, decide_eq_true_eq]
        exact z.2
    generalize orI (fun k => ruE w (E (G + k))) (fun k => decide (E (G + k) % 2 = 1)) (T - G) = o at *
    unfold f_Mo_heads_b11
    rw [Nat.zero_add, ix616, hw, e2, show G + (T - G) = T by omega, if_pos (nle _)]
    have key : f_Mo_heads_l76 0 m (nI o) (0, 0) = some (nI (cN (hdB w G T E) 8)) := by
      rw [← cnI]
      unfold f_Mo_heads_l76
      refine loop_for 8 (fun r (v : Int32) => if hdB w G T E r then v + 1 else v + 0) 0 _ (fun u x hu => ?_) ?_
      · show f_Mo_heads_b76 0 m (nI o) x (nI u) = _
        unfold f_Mo_heads_b76
        rw [if_neg (show ¬ (8 : Int32) ≤ nI u from nI_ge (b := 8) hu (by decide)), bit8 o (by omega) u hu, same u hu, nI_1]
        split <;> rfl
      · unfold f_Mo_heads_b76
        rw [if_pos (show (8 : Int32) ≤ nI 8 from nle 8)]
        rfl
    rw [key]
    rfl
set_option maxHeartbeats 400000 in
theorem X_heads (cc : Nat) (hc : ∀ u, u < 8 → h.1 (cc + 4) u = nI (cN (fun k => decide (G ≤ k) && (decide (E k % 2 = 1) && decide (ruE w (E k) = u))) T)) (hT : T ≤ 160) : f_Cu_heads cc h = some (nI (cN (hdB w G T E) 8)) := by
  rw [← cnI]
  unfold f_Cu_heads f_Cu_heads_l4
  refine loop_for 8 (fun r (v : Int32) => if hdB w G T E r then v + 1 else v + 0) 0 _ (fun u x hu => ?_) ?_
  · show f_Cu_heads_b4 cc h x (nI u) = _
    have cl := cN_le (fun k => decide (G ≤ k) && (decide (E k % 2 = 1) && decide (ruE w (E k) = u))) T
    unfold f_Cu_heads_b4
    rw [if_neg (show ¬ (8 : Int32) ≤ nI u from nI_ge (b := 8) hu (by decide)), if_pos (inb_nI hu (by decide)), ix_nI (by omega), hc u hu, nI_1]
    by_cases z : hdB w G T E u = true
    · obtain ⟨k, hk, pk⟩ := (anyN_iff T).mp z
      have := cN_lt (p := fun k => decide (G ≤ k) && (decide (E k % 2 = 1) && decide (ruE w (E k) = u))) hk pk
      rw [if_neg (nI_nle (by omega) (by omega)), if_pos z]
    · have c0 : cN (fun k => decide (G ≤ k) && (decide (E k % 2 = 1) && decide (ruE w (E k) = u))) T = 0 := by
        rcases Nat.eq_zero_or_pos (cN (fun k => decide (G ≤ k) && (decide (E k % 2 = 1) && decide (ruE w (E k) = u))) T) with y | y
        · exact y
        · obtain ⟨k, hk, pk, -⟩ := cN_sur (c := 0) y
          exact absurd ((anyN_iff T).mpr ⟨k, hk, pk⟩) z
      rw [c0, if_pos (by decide), if_neg z, Int32.add_zero]
  · show f_Cu_heads_b4 cc h _ (nI 8) = _
    unfold f_Cu_heads_b4
    rw [if_pos (show (8 : Int32) ≤ nI 8 from nle 8)]
    rfl
end HD
set_option maxHeartbeats 400000 in
theorem q_swept {h m : HP} (S : RT h 1 (m.1 1)) (v1 : Int32) : ∃ r, f_TJ_swept 0 h v1 = some r ∧ f_Mo_swept 0 m v1 = some r := by
  obtain ⟨T, G, np, E, AC, A, c1, c2, c3, c4, ⟨w1, w2, w3, w4, w5⟩, ⟨x1, x2, x3, x4, x5, x6, x7, x8⟩, y1, y2, y3, p⟩ := S.2.2.2.2.2
  have MH := M_heads (m := m) rfl S.2.1 c1.1 c1.2.1 c2 w1 w2 w3
  have XH := X_heads (h := h) (w := m.1 1) (E := E) 23 y3 c1.1
  have a0 := (w4 0 (by omega)).1
  have a1 := (w4 1 (by omega)).1
  have b0 := (y2 0 (by omega)).1
  have b1 := (y2 1 (by omega)).1
  unfold f_TJ_swept f_Mo_swept f_Cu_held f_Cu_activeTogether f_Mo_actives
  simp only [Nat.zero_add, Nat.reduceAdd, Nat.add_zero, ix0, ix1, ix615, ix616, ix617, ix618, ix619, ix620, ix781, ix782, Option.bind_some] at *
  rw [x1, x2, x5, x6, x7, x8, w1, w2, a0, a1, b0, b1, MH, XH]
  simp only [Option.bind_some]
  refine two rfl ?_
  repeat' split
  all_goals exact fun u => by cases u
set_option maxHeartbeats 400000 in
theorem q_look {h m : HP} (S : RT h 1 (m.1 1)) (v1 : Int32) : ∃ r, f_TJ_look 0 h v1 = some r ∧ f_Mo_look 0 m v1 = some r := by
  obtain ⟨T, G, np, E, AC, A, c1, c2, c3, c4, ⟨w1, w2, w3, w4, w5⟩, ⟨x1, x2, x3, x4, x5, x6, x7, x8⟩, y1, y2, y3, p⟩ := S.2.2.2.2.2
  obtain ⟨nb, hnb, bb1, bb2, -⟩ := S.2.2.2.1
  obtain ⟨mp, mp1, mp2⟩ := q_mostPartners S.rq
  have R := S.2.1
  have V := S.1
  have c8 := X_countRuns (V.rv (s := 0) (by omega))
  have c9 := X_countRuns (V.rv (s := 1) (by omega))
  have m8 := M_runs (m := m) rfl R (s := 0) (by omega) (v1 := 0) rfl
  have m9 := M_runs (m := m) rfl R (s := 1) (by omega) (v1 := 1) rfl
  have k0 := V.2.2.1.2.1
  have k1 := V.2.2.2.2.1
  have r0 := (R 0 (by omega)).1
  have r1 := (R 1 (by omega)).1
  have s0 := S.2.2.1.1
  have g0 := V.1
  have g1 := V.2.1
  unfold f_TJ_look f_Mo_look
  by_cases z0 : v1 = 0
  · rw [if_pos z0, if_pos z0]
    simp only [Nat.zero_add, ix0]
    rw [g0]
    rcases s0 with e | e
    · rw [e, if_pos rfl]; exact ⟨_, rfl, rfl⟩
    · rw [e, if_neg one0]; exact ⟨_, rfl, rfl⟩
  rw [if_neg z0, if_neg z0]
  by_cases z1 : v1 = 1
  · rw [if_pos z1, if_pos z1]
    simp only [Nat.zero_add, ix1]
    rw [g1]; exact ⟨_, rfl, rfl⟩
  rw [if_neg z1, if_neg z1]
  by_cases z2 : v1 = 2
  · rw [if_pos z2, if_pos z2, z2, show (2 + 2 - 2 : Int32) = nI 2 from by decide, if_pos (inb_nI (by omega) (by decide)), ix_nI (by omega)]
    simp only [Nat.zero_add]
    exact ⟨_, congrArg some k0, congrArg some r0⟩
  rw [if_neg z2, if_neg z2]
  by_cases z3 : v1 = 3
  · rw [if_pos z3, if_pos z3, z3, show (2 + 3 - 2 : Int32) = nI 3 from by decide, if_pos (inb_nI (by omega) (by decide)), ix_nI (by omega)]
    simp only [Nat.zero_add]
    exact ⟨_, congrArg some k1, congrArg some r1⟩
  rw [if_neg z3, if_neg z3]
  by_cases z4 : v1 = 4
  · rw [if_pos z4, if_pos z4, ix404]
    exact ⟨_, congrArg some bb1, congrArg some bb2⟩
  rw [if_neg z4, if_neg z4]
  by_cases z5 : v1 = 5
  · rw [if_pos z5, if_pos z5, ix614]
    simp only [Nat.zero_add, Nat.reduceAdd] at *
    rw [x3]
    rcases c1.2.2 with e | ⟨e, -⟩
    · rw [e, if_pos rfl]; exact ⟨_, rfl, rfl⟩
    · rw [e, if_neg one0]; exact ⟨_, rfl, rfl⟩
  rw [if_neg z5, if_neg z5]
  by_cases z6 : v1 = 6
  · rw [if_pos z6, if_pos z6, ix863]
    exact ⟨_, congrArg some x4, congrArg some w5⟩
  rw [if_neg z6, if_neg z6]
  by_cases z7 : v1 = 7
  · rw [if_pos z7, if_pos z7, mp1, mp2]
    exact ⟨_, rfl, rfl⟩
  rw [if_neg z7, if_neg z7]
  by_cases z8 : v1 = 8
  · rw [if_pos z8, if_pos z8, z8, show (8 - 8 : Int32) = 0 from by decide, m8]
    exact ⟨_, by rw [show f_Ro_countRuns (0 + 1 + 1) h = _ from c8]; rfl, rfl⟩
  rw [if_neg z8, if_neg z8]
  by_cases z9 : v1 = 9
  · rw [if_pos z9, if_pos z9, z9, show (9 - 8 : Int32) = 1 from by decide, m9]
    exact ⟨_, by rw [show f_Ro_countRuns (0 + 1 + 7) h = _ from c9]; rfl, rfl⟩
  rw [if_neg z9, if_neg z9]
  exact ⟨_, rfl, rfl⟩
