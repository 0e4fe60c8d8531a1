/-! the whole state of both sides, and what holds between them -/
def TV (h : HP) (b : Nat) (w : Nat → Int32) : Prop := ∃ n, n ≤ 3 ∧ h.1 (b + 19) 2 = nI n ∧ w 605 = nI n ∧ ∀ i, i < n → h.1 (b + 20) i = w (606 + 2 * i) ∧ h.1 (b + 21) i = w (606 + 2 * i + 1)
def BV (h : HP) (b : Nat) (w : Nat → Int32) : Prop := ∃ n, n ≤ 40 ∧ h.1 (b + 13) 5 = nI n ∧ w 404 = nI n ∧ ∀ r, r < n → h.1 (b + 14) r = w (405 + 5 * r) ∧ h.1 (b + 15) r = w (405 + 5 * r + 1) ∧ h.1 (b + 16) r = w (405 + 5 * r + 2) ∧ h.1 (b + 17) r = w (405 + 5 * r + 3) ∧ h.1 (b + 18) r = w (405 + 5 * r + 4)
def sE (e : Nat) : Nat := e / 2 / 40
def rE (e : Nat) : Nat := e / 2 % 40
def plE (w : Nat → Int32) (e : Nat) : Int32 := if e % 2 = 1 then sp w (sE e) (rE e) else ep w (sE e) (rE e)
/-- the class's code of an event -/
def evC (w : Nat → Int32) (e : Nat) : Nat := pN (plE w e) * 256 + e % 2 * 128 + sE e * 64 + rE e
def ruE (w : Nat → Int32) (e : Nat) : Nat := 4 * sE e + ix (fld w (sE e) (rE e) 0)
/-- how many rows of a side have started -/
def stN (E : Nat → Nat) (G s : Nat) : Nat := cN (fun r => anyN (fun k => decide (E k = 2 * (40 * s + r) + 1)) G) 40
/-- the events of a sweep -/
def EVs (w : Nat → Int32) (T : Nat) (E : Nat → Nat) : Prop := (∀ k, k < T → E k < 160 ∧ rE (E k) < nS w (sE (E k))) ∧ (∀ k k', k < T → k' < T → E k = E k' → k = k') ∧ ∀ k, k < T → E k % 2 = 0 → ∃ k0, k0 < k ∧ E k0 = E k + 1
/-- who is active -/
def ACs (G : Nat) (E : Nat → Nat) (AC : Nat → Nat) (A : Nat → Nat → Nat) : Prop := ∀ s, s < 2 → (∀ i, i < AC s → A s i < 40) ∧ (∀ i j, i < AC s → j < AC s → A s i = A s j → i = j) ∧ ∀ r, r < 40 → ((∃ i, i < AC s ∧ A s i = r) ↔ ((∃ k, k < G ∧ E k = 2 * (40 * s + r) + 1) ∧ ¬ ∃ k, k < G ∧ E k = 2 * (40 * s + r)))
def CVd (h : HP) (b : Nat) (w : Nat → Int32) (T G np : Nat) (E AC : Nat → Nat) (A : Nat → Nat → Nat) : Prop :=
  (T ≤ 160 ∧ G ≤ T ∧ (w 614 = 0 ∨ (w 614 = 1 ∧ G < T))) ∧ EVs w T E ∧ ACs G E AC A ∧ np ≤ stN E G 0 * stN E G 1 ∧
  (w 615 = nI G ∧ w 616 = nI T ∧ (∀ k, k < T → w (621 + k) = nI (E k)) ∧ (∀ s, s < 2 → w (781 + s) = nI (AC s) ∧ ∀ i, i < AC s → w (783 + 40 * s + i) = nI (A s i)) ∧ w 863 = nI np) ∧
  (h.1 (b + 22) 1 = nI T ∧ h.1 (b + 22) 2 = nI G ∧ h.1 (b + 22) 3 = w 614 ∧ h.1 (b + 22) 8 = nI np ∧ h.1 (b + 22) 9 = w 617 ∧ h.1 (b + 22) 10 = w 618 ∧ h.1 (b + 22) 11 = w 619 ∧ h.1 (b + 22) 12 = w 620) ∧
  (∀ k, k < T → h.1 (b + 23) k = nI (evC w (E k))) ∧ (∀ s, s < 2 → h.1 (b + 25) s = nI (AC s) ∧ ∀ i, i < AC s → h.1 (b + 24) (40 * s + i) = nI (A s i)) ∧
  (∀ u, u < 8 → h.1 (b + 26) u = nI (cN (fun k => decide (G ≤ k) && (decide (E k % 2 = 1) && decide (ruE w (E k) = u))) T)) ∧
  ∀ i, i < np → ∃ l r, l < nS w 0 ∧ r < nS w 1 ∧ w (864 + 2 * i) = nI l ∧ w (864 + 2 * i + 1) = nI r ∧ h.1 (b + 27) i = nI (40 * l + r)
def CV (h : HP) (b : Nat) (w : Nat → Int32) : Prop := ∃ T G np E AC A, CVd h b w T G np E AC A
/-- settings, rows, batch, trouble, course -/
def RT (h : HP) (b : Nat) (w : Nat → Int32) : Prop := SV h b w ∧ RowsOk w ∧ ((w 0 = 0 ∨ w 0 = 1) ∧ w 1 &&& 2044 = w 1) ∧ BV h b w ∧ TV h b w ∧ CV h b w
set_option maxHeartbeats 400000 in
theorem RT.rq {h m : HP} (S : RT h 1 (m.1 1)) : RQ h m (m.1 1) := ⟨rfl, S.1, S.2.1, S.2.2.1.1, S.2.2.1.2⟩
set_option maxHeartbeats 400000 in
theorem TV.cg {h h' : HP} {b : Nat} {w : Nat → Int32} (S : TV h b w) (e : ∀ a, b ≤ a → a < b + 28 → h'.1 a = h.1 a) : TV h' b w := by
  unfold TV; rw [e (b + 19) (by omega) (by omega), e (b + 20) (by omega) (by omega), e (b + 21) (by omega) (by omega)]; exact S
set_option maxHeartbeats 400000 in
theorem BV.cg {h h' : HP} {b : Nat} {w : Nat → Int32} (S : BV h b w) (e : ∀ a, b ≤ a → a < b + 28 → h'.1 a = h.1 a) : BV h' b w := by
  unfold BV; rw [e (b + 13) (by omega) (by omega), e (b + 14) (by omega) (by omega), e (b + 15) (by omega) (by omega), e (b + 16) (by omega) (by omega), e (b + 17) (by omega) (by omega), e (b + 18) (by omega) (by omega)]; exact S
set_option maxHeartbeats 400000 in
theorem CV.cg {h h' : HP} {b : Nat} {w : Nat → Int32} (S : CV h b w) (e : ∀ a, b ≤ a → a < b + 28 → h'.1 a = h.1 a) : CV h' b w := by
  unfold CV CVd; rw [e (b + 22) (by omega) (by omega), e (b + 23) (by omega) (by omega), e (b + 24) (by omega) (by omega), e (b + 25) (by omega) (by omega), e (b + 26) (by omega) (by omega), e (b + 27) (by omega) (by omega)]; exact S
set_option maxHeartbeats 400000 in
theorem RV.cgh {h h' : HP} {cc : Nat} {w : Nat → Int32} {s n : Nat} (S : RV h cc w s n) (e : ∀ a, cc ≤ a → a < cc + 6 → h'.1 a = h.1 a) : RV h' cc w s n := by
  unfold RV; rw [e cc (by omega) (by omega), e (cc + 1) (by omega) (by omega), e (cc + 2) (by omega) (by omega), e (cc + 3) (by omega) (by omega), e (cc + 4) (by omega) (by omega), e (cc + 5) (by omega) (by omega)]; exact S
set_option maxHeartbeats 400000 in
theorem SV.cgh {h h' : HP} {b : Nat} {w : Nat → Int32} (S : SV h b w) (e : ∀ a, b ≤ a → a < b + 28 → h'.1 a = h.1 a) : SV h' b w :=
  ⟨by rw [e b (by omega) (by omega)]; exact S.1, by rw [e b (by omega) (by omega)]; exact S.2.1, S.2.2.1.cgh (fun a h1 h2 => e a (by omega) (by omega)), S.2.2.2.cgh (fun a h1 h2 => e a (by omega) (by omega))⟩
set_option maxHeartbeats 400000 in
theorem RT.cg {h h' : HP} {b : Nat} {w : Nat → Int32} (S : RT h b w) (e : ∀ a, b ≤ a → a < b + 28 → h'.1 a = h.1 a) : RT h' b w :=
  ⟨S.1.cgh e, S.2.1, S.2.2.1, S.2.2.2.1.cg e, S.2.2.2.2.1.cg e, S.2.2.2.2.2.cg e⟩
/-! numbers that stand in the reference's row -/
set_option maxHeartbeats 400000 in
theorem lin1 (a b n : Nat) : nI a + nI b * nI n = nI (a + b * n) := by rw [← nI_add, ← pk_mul]
set_option maxHeartbeats 400000 in
theorem ix0 : ix 0 = 0 := by decide
set_option maxHeartbeats 400000 in
theorem ix1 : ix 1 = 1 := by decide
set_option maxHeartbeats 400000 in
theorem ix404 : ix 404 = 404 := by decide
set_option maxHeartbeats 400000 in
theorem ix605 : ix 605 = 605 := by decide
set_option maxHeartbeats 400000 in
theorem ix614 : ix 614 = 614 := by decide
set_option maxHeartbeats 400000 in
theorem ix615 : ix 615 = 615 := by decide
set_option maxHeartbeats 400000 in
theorem ix616 : ix 616 = 616 := by decide
set_option maxHeartbeats 400000 in
theorem ix617 : ix 617 = 617 := by decide
set_option maxHeartbeats 400000 in
theorem ix618 : ix 618 = 618 := by decide
set_option maxHeartbeats 400000 in
theorem ix619 : ix 619 = 619 := by decide
set_option maxHeartbeats 400000 in
theorem ix620 : ix 620 = 620 := by decide
set_option maxHeartbeats 400000 in
theorem ix781 : ix 781 = 781 := by decide
set_option maxHeartbeats 400000 in
theorem ix782 : ix 782 = 782 := by decide
set_option maxHeartbeats 400000 in
theorem ix863 : ix 863 = 863 := by decide
set_option maxHeartbeats 400000 in
theorem out_r {v : Int32} {n : Nat} (hn : n < 2 ^ 31) (no : ¬ ∃ i, i < n ∧ v = nI i) (h0 : ¬ v < 0) : nI n ≤ v := by
  obtain ⟨j, hj, rfl⟩ := nI_of h0
  have : ¬ j < n := fun z => no ⟨j, z, rfl⟩
  exact nI_le (by omega) hj
section QS
variable {h m : HP}
set_option maxHeartbeats 400000 in
theorem q_trouble (S : RT h 1 (m.1 1)) (v1 v2 : Int32) : ∃ r, f_TJ_trouble 0 h v1 v2 = some r ∧ f_Mo_trouble 0 m v1 v2 = some r := by
  obtain ⟨n, hn, e1, e2, e3⟩ := S.2.2.2.2.1
  unfold f_TJ_trouble f_Mo_trouble
  simp only [Nat.zero_add, Nat.reduceAdd, ix605] at *
  rw [e1, e2, M_isIn]
  by_cases z : v1 = -1
  · rw [if_pos z, if_pos z]; exact ⟨_, rfl, rfl⟩
  · rw [if_neg z, if_neg z]
    simp only [Option.bind_some]
    by_cases y : ∃ i, i < n ∧ v1 = nI i
    · rw [if_pos ((in_iff (by omega)).mpr y)]
      obtain ⟨i, hi, rfl⟩ := y
      rw [if_neg (nI_pos (by omega)), if_pos (nI_lt hi (by omega)), if_neg one0, M_isIn, if_pos (inb_nI (show i < 3 by omega) (by decide)), ix_nI (by omega)]
      simp only [Option.bind_some]
      have l : (606 : Int32) + 2 * nI i = nI (606 + 2 * i) := lin1 606 2 i
      by_cases a : v2 = 0
      · have l2 : nI (606 + 2 * i) + v2 = nI (606 + 2 * i) := by rw [a, Int32.add_zero]
        rw [if_pos a, if_pos (show 0 ≤ v2 ∧ v2 ≤ 1 by rw [a]; decide), if_neg one0, l, l2, if_pos (inb_nI (by omega) (by decide)), ix_nI (by omega), (e3 i hi).1]
        exact ⟨_, rfl, rfl⟩
      · by_cases b : v2 = 1
        · have l2 : nI (606 + 2 * i) + v2 = nI (606 + 2 * i + 1) := by rw [b, nI_1]
          rw [if_neg a, if_pos b, if_pos (show inb (nI i) 3 from inb_nI (by omega) (by decide)), if_pos (show 0 ≤ v2 ∧ v2 ≤ 1 by rw [b]; decide), if_neg one0, l, l2, if_pos (inb_nI (by omega) (by decide)), ix_nI (by omega), (e3 i hi).2]
          exact ⟨_, rfl, rfl⟩
        · have : ¬ (0 ≤ v2 ∧ v2 ≤ 1) := by grind
          rw [if_neg a, if_neg b, if_neg this, if_pos rfl]
          exact ⟨_, rfl, rfl⟩
    · rw [if_neg (fun u => y ((in_iff (by omega)).mp u)), if_pos rfl]
      by_cases a : v1 < 0
      · rw [if_pos a]; exact ⟨_, rfl, rfl⟩
      · rw [if_neg a, if_neg (Int32.not_lt.mpr (out_r (by omega) y a))]; exact ⟨_, rfl, rfl⟩
set_option maxHeartbeats 400000 in
theorem AC_le {G : Nat} {E AC : Nat → Nat} {A : Nat → Nat → Nat} (H : ACs G E AC A) {s : Nat} (hs : s < 2) : AC s ≤ stN E G s := by
  obtain ⟨a, b, c⟩ := H s hs
  rw [← cN_inj (r := A s) (N := 40) (AC s) a b]
  unfold stN
  refine cN_imp 40 (fun r hr z => ?_)
  obtain ⟨i, hi, e⟩ := (anyN_iff _).mp z
  obtain ⟨⟨k, hk, e2⟩, -⟩ := (c r hr).mp ⟨i, hi, (of_decide_eq_true e).symm⟩
  exact (anyN_iff _).mpr ⟨k, hk, decide_eq_true e2⟩
set_option maxHeartbeats 400000 in
theorem stN_le (E : Nat → Nat) (G s : Nat) : stN E G s ≤ 40 := cN_le _ _
set_option maxHeartbeats 400000 in
theorem AC_40 {G : Nat} {E AC : Nat → Nat} {A : Nat → Nat → Nat} (H : ACs G E AC A) {s : Nat} (hs : s < 2) : AC s ≤ 40 := Nat.le_trans (AC_le H hs) (stN_le E G s)
set_option maxHeartbeats 400000 in
theorem np_le {np G : Nat} {E : Nat → Nat} (H : np ≤ stN E G 0 * stN E G 1) : np ≤ 1600 := Nat.le_trans H (Nat.mul_le_mul (stN_le E G 0) (stN_le E G 1))
set_option maxHeartbeats 400000 in
theorem q_active (S : RT h 1 (m.1 1)) (v1 v2 : Int32) : ∃ r, f_TJ_active 0 h v1 v2 = some r ∧ f_Mo_active 0 m v1 v2 = some r := by
  obtain ⟨T, G, np, E, AC, A, c1, c2, c3, c4, ⟨-, -, -, w4, -⟩, -, -, x3, -⟩ := S.2.2.2.2.2
  unfold f_TJ_active f_Mo_active
  rw [X_isSide, M_isSide]
  simp only [Option.bind_some, Nat.zero_add, Nat.reduceAdd] at *
  by_cases hv : v1 = 0 ∨ v1 = 1
  · obtain ⟨s, hs, rfl⟩ := side_in hv
    have h40 := AC_40 c3 hs
    have l : (781 : Int32) + nI s = nI (781 + s) := nI_add 781 s
    rw [if_pos hv, if_neg one0, if_neg one0, if_pos (inb_nI hs (by decide)), ix_nI (by omega), (x3 s hs).1, l, if_pos (inb_nI (by omega) (by decide)), ix_nI (by omega), (w4 s hs).1, M_isIn]
    simp only [Option.bind_some]
    by_cases z : v2 = -1
    · rw [if_pos z, if_pos z]; exact ⟨_, rfl, rfl⟩
    · rw [if_neg z, if_neg z, if_pos (inb_nI (by omega) (by decide))]
      by_cases y : ∃ i, i < AC s ∧ v2 = nI i
      · rw [if_pos ((in_iff (by omega)).mpr y)]
        obtain ⟨i, hi, rfl⟩ := y
        have l1 : nI s * 40 + nI i = nI (40 * s + i) := by rw [show nI s * 40 = nI (s * 40) from pk_mul s 40, nI_add, Nat.mul_comm]
        have l2 : 783 + 40 * nI s + nI i = nI (783 + 40 * s + i) := by rw [show (783 : Int32) + 40 * nI s = nI (783 + 40 * s) from lin1 783 40 s, nI_add]
        rw [if_neg (nI_pos (by omega)), if_neg (nI_ge hi (by omega)), if_neg one0, l1, if_pos (inb_nI (by omega) (by decide)), ix_nI (by omega), (x3 s hs).2 i hi]
        unfold f_Mo_activeAt
        simp only [Option.bind_some]
        rw [l2, if_pos (inb_nI (by omega) (by decide)), ix_nI (by omega), (w4 s hs).2 i hi]
        exact ⟨_, rfl, rfl⟩
      · rw [if_neg (fun u => y ((in_iff (by omega)).mp u)), if_pos rfl]
        by_cases a : v2 < 0
        · rw [if_pos a]; exact ⟨_, rfl, rfl⟩
        · rw [if_neg a, if_pos (out_r (by omega) y a)]; exact ⟨_, rfl, rfl⟩
  · rw [if_neg hv, if_pos rfl, if_pos rfl]; exact ⟨_, rfl, rfl⟩
set_option maxHeartbeats 400000 in
theorem nI_div {a b : Nat} (ha : a < 2 ^ 31) (hb : b < 2 ^ 31) (h0 : 0 < b) : nI a / nI b = nI (a / b) := by
  have hd := Nat.div_le_self a b
  refine Int32.toInt_inj.mp ?_
  rw [Int32.toInt_div, nI_toInt ha, nI_toInt hb, nI_toInt (by omega)]
  have : ((a : Int).tdiv (b : Int)) = ((a / b : Nat) : Int) := by
    rw [Int.tdiv_eq_ediv_of_nonneg (by omega)]; rfl
  have hc : ∀ c : Nat, c ≤ a → (((c : Nat) : Int)).bmod (2 ^ 32) = ((c : Nat) : Int) := fun c hc => Int.bmod_eq_of_le (by omega) (by omega)
  rw [this]
  exact hc _ hd
set_option maxHeartbeats 400000 in
theorem q_pair (S : RT h 1 (m.1 1)) (v1 v2 : Int32) : ∃ r, f_TJ_pair 0 h v1 v2 = some r ∧ f_Mo_pair 0 m v1 v2 = some r := by
  obtain ⟨T, G, np, E, AC, A, c1, c2, c3, c4, ⟨-, -, -, -, w5⟩, ⟨-, -, -, x4, -⟩, -, -, -, p⟩ := S.2.2.2.2.2
  have V := S.1
  have R := S.2.1
  have hnp := np_le c4
  have n0 := (R 0 (by omega)).2.1
  have n1 := (R 1 (by omega)).2.1
  unfold f_TJ_pair f_Mo_pair
  simp only [Nat.zero_add, Nat.reduceAdd, ix863] at *
  rw [x4, w5, M_isIn]
  by_cases z : v1 = -1
  · rw [if_pos z, if_pos z]; exact ⟨_, rfl, rfl⟩
  · rw [if_neg z, if_neg z]
    simp only [Option.bind_some]
    by_cases y : ∃ i, i < np ∧ v1 = nI i
    · rw [if_pos ((in_iff (by omega)).mpr y)]
      obtain ⟨i, hi, rfl⟩ := y
      obtain ⟨l, r, hl, hr, p1, p2, p3⟩ := p i hi
      have l1 : (864 : Int32) + 2 * nI i = nI (864 + 2 * i) := lin1 864 2 i
      have b1 : inb (nI i) 1600 := inb_nI (by omega) (by decide)
      have d1 : nI (40 * l + r) / 40 = nI l := by rw [show (40 : Int32) = nI 40 from rfl, nI_div (by omega) (by omega) (by omega)]; congr 1; omega
      have d2 : nI (40 * l + r) - nI l * 40 = nI r := by
        rw [show nI l * 40 = nI (l * 40) from pk_mul l 40, pk_sub (by omega)]; congr 1; omega
      rw [if_neg (nI_pos (by omega)), if_pos (nI_lt hi (by omega)), if_neg one0, l1, nI_1, if_pos (show inb (nI (864 + 2 * i)) 4100 from inb_nI (by omega) (by decide)), if_pos (show inb (nI (864 + 2 * i + 1)) 4100 from inb_nI (by omega) (by decide)), ix_nI (show i < 2 ^ 31 by omega), ix_nI (show 864 + 2 * i < 2 ^ 31 by omega), ix_nI (show 864 + 2 * i + 1 < 2 ^ 31 by omega), p1, p2, p3, d1, d2, M_kindB (h := m) (s := 0) (v1 := 0) (s2 := 1) (v3 := 1) (by omega) (show l < 40 by omega) (by omega) (show r < 40 by omega) rfl rfl rfl rfl, M_sharedFrom (h := m) (show l < 40 by omega) (show r < 40 by omega), M_sharedTo (h := m) (show l < 40 by omega) (show r < 40 by omega), M_sharedLong (h := m) (show l < 40 by omega) (show r < 40 by omega), X_kindOf (s := 0) (v1 := 0) (s2 := 1) (v3 := 1) V (by omega) hl (by omega) hr rfl rfl, X_sharedFrom V hl hr, X_sharedTo V hl hr, X_sharedLong V hl hr]
      simp only [if_pos b1, Option.bind_some, X_timeOf, M_time]
      refine two rfl ?_
      split
      · exact fun u => by cases u
      · split
        · exact fun u => by cases u
        · split
          · exact fun u => by cases u
          · split
            · exact fun u => by cases u
            · split
              · exact fun u => by cases u
              · split <;> exact fun u => by cases u
    · rw [if_neg (fun u => y ((in_iff (by omega)).mp u)), if_pos rfl]
      by_cases a : v1 < 0
      · rw [if_pos a]; exact ⟨_, rfl, rfl⟩
      · rw [if_neg a, if_neg (Int32.not_lt.mpr (out_r (by omega) y a))]; exact ⟨_, rfl, rfl⟩
end QS
