/-! set, batch, clear, leave -/
set_option maxHeartbeats 400000 in
theorem mask_iff (v : Int32) : v &&& (-2045) = 0 ↔ v &&& 2044 = v := by
  rw [show (-2045 : Int32) = ~~~2044 from by decide, ← Int32.toBitVec_inj, ← Int32.toBitVec_inj, Int32.toBitVec_and, Int32.toBitVec_and, Int32.toBitVec_not]
  generalize (2044 : Int32).toBitVec = c
  show v.toBitVec &&& ~~~c = 0#32 ↔ v.toBitVec &&& c = v.toBitVec
  generalize v.toBitVec = x
  constructor
  · intro h
    apply BitVec.eq_of_getLsbD_eq
    intro i hi
    have := congrArg (fun y => y.getLsbD i) h
    simp only [BitVec.getLsbD_and, BitVec.getLsbD_not, BitVec.getLsbD_zero, decide_eq_true hi, Bool.true_and] at this
    rw [BitVec.getLsbD_and]
    cases hx : x.getLsbD i <;> cases hc : c.getLsbD i <;> simp_all
  · intro h
    apply BitVec.eq_of_getLsbD_eq
    intro i hi
    have := congrArg (fun y => y.getLsbD i) h
    simp only [BitVec.getLsbD_and] at this
    simp only [BitVec.getLsbD_and, BitVec.getLsbD_not, BitVec.getLsbD_zero, decide_eq_true hi, Bool.true_and]
    cases hx : x.getLsbD i <;> cases hc : c.getLsbD i <;> simp_all
def canS (v1 v2 : Int32) : Prop := (v1 = 0 ∧ (v2 = 0 ∨ v2 = 1)) ∨ (v1 = 1 ∧ v2 &&& 2044 = v2)
set_option maxHeartbeats 400000 in
theorem X_canSet (v1 v2 : Int32) : (canS v1 v2 ∧ f_TJ_canBeSet v1 v2 = some 1) ∨ (¬ canS v1 v2 ∧ f_TJ_canBeSet v1 v2 = some 0) := by
  unfold f_TJ_canBeSet canS
  by_cases a : v1 = 0
  · rw [if_pos a]
    by_cases b : v2 = 0
    · rw [if_pos b]; exact Or.inl ⟨Or.inl ⟨a, Or.inl b⟩, rfl⟩
    · rw [if_neg b]
      by_cases c : v2 = 1
      · rw [if_pos c]; exact Or.inl ⟨Or.inl ⟨a, Or.inr c⟩, rfl⟩
      · rw [if_neg c]
        refine Or.inr ⟨?_, rfl⟩
        rintro (⟨-, z | z⟩ | ⟨z, -⟩)
        · exact b z
        · exact c z
        · rw [a] at z; exact absurd z (by decide)
  · rw [if_neg a]
    by_cases b : v1 = 1
    · rw [if_pos b]
      by_cases c : v2 &&& (-2045) = 0
      · rw [if_pos c]; exact Or.inl ⟨Or.inr ⟨b, (mask_iff v2).mp c⟩, rfl⟩
      · rw [if_neg c]
        refine Or.inr ⟨?_, rfl⟩
        rintro (⟨z, -⟩ | ⟨-, z⟩)
        · exact a z
        · exact c ((mask_iff v2).mpr z)
    · rw [if_neg b]
      refine Or.inr ⟨?_, rfl⟩
      rintro (⟨z, -⟩ | ⟨z, -⟩)
      · exact a z
      · exact b z
set_option maxHeartbeats 400000 in
theorem M_set1 (m : HP) (v1 v2 : Int32) : (canS v1 v2 → f_Mo_set 0 m v1 v2 = f_Mo_set_j41 0 (upI m 1 605 0) v1 v2 1) ∧ (¬ canS v1 v2 → f_Mo_set 0 m v1 v2 = f_Mo_set_j41 0 (upI m 1 605 0) v1 v2 0) := by
  unfold f_Mo_set canS
  rw [M_isIn, Nat.zero_add, ix605]
  simp only [Option.bind_some]
  have r01 : (0 ≤ v2 ∧ v2 ≤ 1) ↔ (v2 = 0 ∨ v2 = 1) := by grind
  constructor
  · rintro (⟨a, b⟩ | ⟨a, b⟩)
    · rw [if_pos a, if_pos (r01.mpr b)]
    · rw [if_neg (by rw [a]; decide), if_pos a, if_pos b]
  · intro no
    by_cases a : v1 = 0
    · rw [if_pos a, if_neg (fun z => no (Or.inl ⟨a, r01.mp z⟩))]
    · rw [if_neg a]
      by_cases b : v1 = 1
      · rw [if_pos b, if_neg (fun z => no (Or.inr ⟨b, z⟩))]
      · rw [if_neg b]
set_option maxHeartbeats 400000 in
theorem CV.run {h : HP} {w : Nat → Int32} (S : CV h 1 w) : h.1 23 3 = w 614 ∧ (w 614 = 0 ∨ w 614 = 1) ∧ h.1 23 2 = w 615 := by
  obtain ⟨T, G, np, E, AC, A, c1, c2, c3, c4, ⟨w1, w2, w3, w4, w5⟩, ⟨x1, x2, x3, -⟩, -⟩ := S
  refine ⟨x3, ?_, by rw [w1]; exact x2⟩
  rcases c1.2.2 with e | e
  · exact Or.inl e
  · exact Or.inr e.1
set_option maxHeartbeats 400000 in
theorem q_set {h m : HP} (S : RT h 1 (m.1 1)) (v1 v2 : Int32) : AlikeS h m (f_TJ_set 0 h v1 v2) (f_Mo_set 0 m v1 v2) := by
  obtain ⟨e1, T1, X1, M1⟩ := forget_both h m
  have U1 := S.ru.cgt X1 M1
  obtain ⟨r1, r2, r3⟩ := U1.2.2.2.2.run
  unfold f_TJ_set
  simp only [Nat.zero_add, Nat.reduceAdd]
  rw [e1]
  simp only [Option.bind_some]
  generalize upI h 20 2 0 = h1 at *
  rcases X_canSet v1 v2 with ⟨can, ec⟩ | ⟨can, ec⟩
  · rw [ec, (M_set1 m v1 v2).1 can]
    generalize upI m 1 605 0 = m1 at *
    unfold f_Mo_set_j41 f_Mo_isSweeping
    simp only [Option.bind_some, Nat.zero_add, ix614]
    rw [if_neg one0, if_neg one0, r1]
    rcases r2 with z | z
    · rw [z, if_pos rfl, if_neg (show ¬ (0 : Int32) = 1 by decide)]
      simp only [Option.bind_some, if_true]
      rcases can with ⟨a, b⟩ | ⟨a, b⟩
      · subst a
        rw [if_pos rfl, show (0 + 0 : Int32) = nI 0 from by decide, if_pos (inb_nI (by omega) (by decide)), ix_nI (by omega)]
        have ev : (if v2 = 1 then some (upI h1 1 6 1, (1 : Int32)) else some (upI h1 1 6 0, 1)) = some (upI h1 1 6 v2, 1) := by
          rcases b with b | b
          · rw [b, if_neg (by decide)]
          · rw [b, if_pos rfl]
        rw [ev]
        have e : ∀ j, 1 ≤ j → (upI m1 1 0 v2).1 1 j = m1.1 1 j := fun j hj => by rw [upI_s, if_neg (by omega)]
        have eX : ∀ a, a ≠ 1 → (upI h1 1 6 v2).1 a = h1.1 a := fun a ha => upI_at _ _ _ _ ha
        have g := grow.of U1.2.1 (w' := (upI m1 1 0 v2).1 1) (fun j h1 _ => e j (by omega))
        refine ⟨_, _, _, rfl, rfl, ⟨⟨?_, ?_, ?_, ?_⟩, U1.2.1.cgw (fun j h1 _ => e j (by omega)), ⟨?_, ?_⟩, ?_, ?_, ?_⟩, ?_, ?_⟩
        · rw [upI_s, if_pos rfl, upI_s, if_pos rfl]
        · rw [upI_s, if_neg (by decide), e 1 (by omega)]; exact U1.1.2.1
        · rw [nS_cg (fun j h1 _ => e j (by omega)) (by omega)]
          exact (U1.1.2.2.1.cgh (fun a h1 _ => eX a (by omega))).cgw (by omega) (fun r k hr hk => (g 0 (by omega)).2 r k hr hk)
        · rw [nS_cg (fun j h1 _ => e j (by omega)) (by omega)]
          exact (U1.1.2.2.2.cgh (fun a h1 _ => eX a (by omega))).cgw (by omega) (fun r k hr hk => (g 1 (by omega)).2 r k hr hk)
        · rw [upI_s, if_pos rfl]; exact b
        · rw [e 1 (by omega)]; exact U1.2.2.1.2
        · exact (U1.2.2.2.1.cgt (fun a h1 _ => eX a (by omega))).cgw (fun j h1 _ => e j (by omega))
        · exact TV.cgw (h := upI h1 1 6 v2) (w := m1.1 1) ⟨0, by omega, by rw [eX _ (by omega)]; exact T1.2.1, T1.2.2.1, fun i hi => by omega⟩ (fun j h1 _ => e j (by omega))
        · exact (U1.2.2.2.2.cgt (fun a h1 _ => eX a (by omega))).cgw g (fun j h1 _ => e j (by omega))
        · exact X1.net.tr ⟨eX 29 (by decide), eX 30 (by decide), eX 31 (by decide)⟩
        · exact M1.net.tr ⟨fun k _ => e _ (by omega), upI_at _ _ _ _ (by decide), by rw [upI_at _ _ _ _ (by decide)], upI_at _ _ _ _ (by decide), by rw [upI_at _ _ _ _ (by decide)]⟩
      · subst a
        rw [if_neg (by decide), show (0 + 1 : Int32) = nI 1 from by decide, if_pos (inb_nI (by omega) (by decide)), ix_nI (by omega)]
        have e : ∀ j, j ≠ 1 → (upI m1 1 1 v2).1 1 j = m1.1 1 j := fun j hj => by rw [upI_s, if_neg hj]
        have eX : ∀ a, a ≠ 1 → (upI h1 1 7 v2).1 a = h1.1 a := fun a ha => upI_at _ _ _ _ ha
        have g := grow.of U1.2.1 (w' := (upI m1 1 1 v2).1 1) (fun j h1 _ => e j (by omega))
        refine ⟨_, _, _, rfl, rfl, ⟨⟨?_, ?_, ?_, ?_⟩, U1.2.1.cgw (fun j h1 _ => e j (by omega)), ⟨?_, ?_⟩, ?_, ?_, ?_⟩, ?_, ?_⟩
        · rw [upI_s, if_neg (by decide), e 0 (by omega)]; exact U1.1.1
        · rw [upI_s, if_pos rfl, upI_s, if_pos rfl]
        · rw [nS_cg (fun j h1 _ => e j (by omega)) (by omega)]
          exact (U1.1.2.2.1.cgh (fun a h1 _ => eX a (by omega))).cgw (by omega) (fun r k hr hk => (g 0 (by omega)).2 r k hr hk)
        · rw [nS_cg (fun j h1 _ => e j (by omega)) (by omega)]
          exact (U1.1.2.2.2.cgh (fun a h1 _ => eX a (by omega))).cgw (by omega) (fun r k hr hk => (g 1 (by omega)).2 r k hr hk)
        · rw [e 0 (by omega)]; exact U1.2.2.1.1
        · rw [upI_s, if_pos rfl]; exact b
        · exact (U1.2.2.2.1.cgt (fun a h1 _ => eX a (by omega))).cgw (fun j h1 _ => e j (by omega))
        · exact TV.cgw (h := upI h1 1 7 v2) (w := m1.1 1) ⟨0, by omega, by rw [eX _ (by omega)]; exact T1.2.1, T1.2.2.1, fun i hi => by omega⟩ (fun j h1 _ => e j (by omega))
        · exact (U1.2.2.2.2.cgt (fun a h1 _ => eX a (by omega))).cgw g (fun j h1 _ => e j (by omega))
        · exact X1.net.tr ⟨eX 29 (by decide), eX 30 (by decide), eX 31 (by decide)⟩
        · exact M1.net.tr ⟨fun k _ => e _ (by omega), upI_at _ _ _ _ (by decide), by rw [upI_at _ _ _ _ (by decide)], upI_at _ _ _ _ (by decide), by rw [upI_at _ _ _ _ (by decide)]⟩
    · obtain ⟨h2, m2, e2, e3, T2, X2, M2⟩ := because_both T1 (by omega) 9 v1
      have g615 : h2.1 23 2 = m2.1 1 615 := by
        rw [X2 23 (by decide) (by decide) (by decide), M2.2 615 (by omega)]; exact r3
      obtain ⟨h3, m3, e4, e5, T3, X3, M3⟩ := because_both T2 (by omega) 8 (m2.1 1 615)
      rw [z, if_neg one0, if_pos rfl]
      simp only [Option.bind_some]
      rw [if_neg one0, e2]
      simp only [Option.bind_some]
      unfold f_Mo_set_j64
      rw [g615, e4, e3]
      simp only [Option.bind_some, Nat.zero_add, ix615]
      rw [if_neg one0, e5]
      exact ⟨h3, m3, 0, rfl, rfl, (U1.cgt (X2.tr X3) (M2.tr M3)).rt T3.tv, X1.net.tr (X2.tr X3).net, M1.net.tr (M2.tr M3).net⟩
  · rw [ec, (M_set1 m v1 v2).2 can]
    generalize upI m 1 605 0 = m1 at *
    obtain ⟨h2, m2, e2, e3, T2, X2, M2⟩ := because_both T1 (by omega) 9 v1
    unfold f_Mo_set_j41 f_Mo_set_j64
    rw [e2, e3]
    simp only [Option.bind_some, if_true]
    exact ⟨h2, m2, 0, rfl, rfl, (U1.cgt X2 M2).rt T2.tv, X1.net.tr X2.net, M1.net.tr M2.net⟩
/-! rows put behind others -/
def apH (h : HP) (cc n : Nat) (v1 v2 v3 v4 v5 : Int32) : HP := upI (upI (upI (upI (upI (upI h (cc + 1) n v1) (cc + 2) n v2) (cc + 3) n v3) (cc + 4) n v4) (cc + 5) n v5) cc 5 (nI (n + 1))
set_option maxHeartbeats 400000 in
theorem X_append {h : HP} {cc n : Nat} (e : h.1 cc 5 = nI n) (hn : n < 40) (v1 v2 v3 v4 v5 : Int32) : f_Ro_append cc h v1 v2 v3 v4 v5 = some (apH h cc n v1 v2 v3 v4 v5, 1) := by
  unfold f_Ro_append apH
  have b : inb (nI n) 40 := inb_nI hn (by decide)
  simp only [upI_ne _ _ _ _ (show cc ≠ cc + 1 by omega), upI_ne _ _ _ _ (show cc ≠ cc + 2 by omega), upI_ne _ _ _ _ (show cc ≠ cc + 3 by omega), upI_ne _ _ _ _ (show cc ≠ cc + 4 by omega), upI_ne _ _ _ _ (show cc ≠ cc + 5 by omega), e, if_pos b, ix_nI (show n < 2 ^ 31 by omega), nI_1, if_pos (show nI n < (40 : Int32) from nI_lt (b := 40) hn (by decide))]
set_option maxHeartbeats 400000 in
theorem X_append40 {h : HP} {cc : Nat} (e : h.1 cc 5 = nI 40) (v1 v2 v3 v4 v5 : Int32) : f_Ro_append cc h v1 v2 v3 v4 v5 = some (h, 0) := by
  unfold f_Ro_append
  rw [e, if_neg (show ¬ nI 40 < (40 : Int32) from by decide)]
set_option maxHeartbeats 400000 in
theorem apH_fr {h : HP} {cc n : Nat} {v1 v2 v3 v4 v5 : Int32} {a : Nat} (ha : a < cc ∨ cc + 5 < a) : (apH h cc n v1 v2 v3 v4 v5).1 a = h.1 a := by
  unfold apH
  rw [upI_at _ _ _ _ (by omega), upI_at _ _ _ _ (by omega), upI_at _ _ _ _ (by omega), upI_at _ _ _ _ (by omega), upI_at _ _ _ _ (by omega), upI_at _ _ _ _ (by omega)]
set_option maxHeartbeats 400000 in
theorem apH_c {h : HP} {cc n : Nat} {v1 v2 v3 v4 v5 : Int32} : (apH h cc n v1 v2 v3 v4 v5).1 cc 5 = nI (n + 1) := by unfold apH; rw [upI_s, if_pos rfl]
set_option maxHeartbeats 400000 in
theorem apH_1 {h : HP} {cc n : Nat} {v1 v2 v3 v4 v5 : Int32} (r : Nat) : (apH h cc n v1 v2 v3 v4 v5).1 (cc + 1) r = if r = n then v1 else h.1 (cc + 1) r := by
  unfold apH
  rw [upI_ne _ _ _ _ (by omega), upI_ne _ _ _ _ (by omega), upI_ne _ _ _ _ (by omega), upI_ne _ _ _ _ (by omega), upI_ne _ _ _ _ (by omega), upI_s]
set_option maxHeartbeats 400000 in
theorem apH_2 {h : HP} {cc n : Nat} {v1 v2 v3 v4 v5 : Int32} (r : Nat) : (apH h cc n v1 v2 v3 v4 v5).1 (cc + 2) r = if r = n then v2 else h.1 (cc + 2) r := by
  unfold apH
  rw [upI_ne _ _ _ _ (by omega), upI_ne _ _ _ _ (by omega), upI_ne _ _ _ _ (by omega), upI_ne _ _ _ _ (by omega), upI_s, upI_ne _ _ _ _ (by omega)]
set_option maxHeartbeats 400000 in
theorem apH_3 {h : HP} {cc n : Nat} {v1 v2 v3 v4 v5 : Int32} (r : Nat) : (apH h cc n v1 v2 v3 v4 v5).1 (cc + 3) r = if r = n then v3 else h.1 (cc + 3) r := by
  unfold apH
  rw [upI_ne _ _ _ _ (by omega), upI_ne _ _ _ _ (by omega), upI_ne _ _ _ _ (by omega), upI_s, upI_ne _ _ _ _ (by omega), upI_ne _ _ _ _ (by omega)]
set_option maxHeartbeats 400000 in
theorem apH_4 {h : HP} {cc n : Nat} {v1 v2 v3 v4 v5 : Int32} (r : Nat) : (apH h cc n v1 v2 v3 v4 v5).1 (cc + 4) r = if r = n then v4 else h.1 (cc + 4) r := by
  unfold apH
  rw [upI_ne _ _ _ _ (by omega), upI_ne _ _ _ _ (by omega), upI_s, upI_ne _ _ _ _ (by omega), upI_ne _ _ _ _ (by omega), upI_ne _ _ _ _ (by omega)]
set_option maxHeartbeats 400000 in
theorem apH_5 {h : HP} {cc n : Nat} {v1 v2 v3 v4 v5 : Int32} (r : Nat) : (apH h cc n v1 v2 v3 v4 v5).1 (cc + 5) r = if r = n then v5 else h.1 (cc + 5) r := by
  unfold apH
  rw [upI_ne _ _ _ _ (by omega), upI_s, upI_ne _ _ _ _ (by omega), upI_ne _ _ _ _ (by omega), upI_ne _ _ _ _ (by omega), upI_ne _ _ _ _ (by omega)]
/-- the reference lays a row -/
def lyM (m : HP) (p : Nat) (v1 v2 v3 v4 v5 : Int32) : HP := upI (upI (upI (upI (upI m 1 p v1) 1 (p + 1) v2) 1 (p + 2) v3) 1 (p + 3) v4) 1 (p + 4) v5
set_option maxHeartbeats 400000 in
theorem M_lays {m : HP} {p : Nat} (hp : p + 4 < 4100) (v1 v2 v3 v4 v5 : Int32) : f_Mo_lays 0 m (nI p) v1 v2 v3 v4 v5 = some (lyM m p v1 v2 v3 v4 v5) := by
  unfold f_Mo_lays lyM
  have e0 : nI p + 0 = nI p := Int32.add_zero _
  have e1 : nI p + 1 = nI (p + 1) := nI_1 _
  have e2 : nI p + 2 = nI (p + 2) := nI_add p 2
  have e3 : nI p + 3 = nI (p + 3) := nI_add p 3
  have e4 : nI p + 4 = nI (p + 4) := nI_add p 4
  rw [e0, e1, e2, e3, e4, if_pos (inb_nI (by omega) (by decide)), if_pos (inb_nI (by omega) (by decide)), if_pos (inb_nI (by omega) (by decide)), if_pos (inb_nI (by omega) (by decide)), if_pos (inb_nI (by omega) (by decide)), ix_nI (by omega), ix_nI (by omega), ix_nI (by omega), ix_nI (by omega), ix_nI (by omega)]
set_option maxHeartbeats 400000 in
theorem lyM_fr {m : HP} {p : Nat} {v1 v2 v3 v4 v5 : Int32} {a : Nat} (ha : a ≠ 1) : (lyM m p v1 v2 v3 v4 v5).1 a = m.1 a := by
  unfold lyM
  rw [upI_at _ _ _ _ ha, upI_at _ _ _ _ ha, upI_at _ _ _ _ ha, upI_at _ _ _ _ ha, upI_at _ _ _ _ ha]
set_option maxHeartbeats 400000 in
theorem lyM_at {m : HP} {p : Nat} {v1 v2 v3 v4 v5 : Int32} (j : Nat) : (lyM m p v1 v2 v3 v4 v5).1 1 j = if j = p + 4 then v5 else if j = p + 3 then v4 else if j = p + 2 then v3 else if j = p + 1 then v2 else if j = p then v1 else m.1 1 j := by
  unfold lyM
  rw [upI_s, upI_s, upI_s, upI_s, upI_s]
set_option maxHeartbeats 400000 in
theorem lyM_out {m : HP} {p : Nat} {v1 v2 v3 v4 v5 : Int32} {j : Nat} (hj : j < p ∨ p + 4 < j) : (lyM m p v1 v2 v3 v4 v5).1 1 j = m.1 1 j := by
  rw [lyM_at, if_neg (by omega), if_neg (by omega), if_neg (by omega), if_neg (by omega), if_neg (by omega)]
set_option maxHeartbeats 400000 in
theorem q_batch {h m : HP} (S : RT h 1 (m.1 1)) (v1 v2 v3 v4 v5 : Int32) : AlikeS h m (f_TJ_batch 0 h v1 v2 v3 v4 v5) (f_Mo_batch 0 m v1 v2 v3 v4 v5) := by
  obtain ⟨n, hn, e1, e2, e3⟩ := S.2.2.2.1
  unfold f_TJ_batch f_Mo_batch
  simp only [Nat.zero_add, Nat.reduceAdd, ix404] at *
  rw [e2]
  rcases (show n < 40 ∨ n = 40 by omega) with hn' | rfl
  · have l1 : (405 : Int32) + 5 * nI n = nI (405 + 5 * n) := lin1 405 5 n
    rw [X_append e1 hn', if_neg (show ¬ nI n = (40 : Int32) from fun z => absurd ((nI_eq (by omega) (by omega)).mp (show nI n = nI 40 from z)) (by omega)), l1, M_lays (by omega)]
    simp only [Option.bind_some]
    rw [if_neg one0, apH_c]
    have w404 : (lyM m (405 + 5 * n) v1 v2 v3 v4 v5).1 1 404 = nI n := by rw [lyM_out (by omega)]; exact e2
    rw [w404, nI_1]
    generalize hm' : upI (lyM m (405 + 5 * n) v1 v2 v3 v4 v5) 1 404 (nI (n + 1)) = m'
    have wo : ∀ j, (j < 404 ∨ 604 < j) → m'.1 1 j = m.1 1 j := fun j hj => by rw [← hm', upI_s, if_neg (by omega), lyM_out (by omega)]
    have w4 : m'.1 1 404 = nI (n + 1) := by rw [← hm', upI_s, if_pos rfl]
    have mo : ∀ a, a ≠ 1 → m'.1 a = m.1 a := fun a ha => by rw [← hm', upI_at _ _ _ _ ha, lyM_fr ha]
    have ho : ∀ a, (a < 14 ∨ 19 < a) → (apH h 14 n v1 v2 v3 v4 v5).1 a = h.1 a := fun a ha => apH_fr (by omega)
    rw [w4]
    refine ⟨_, _, _, rfl, rfl, ⟨(S.1.cgt (fun a h1 h2 => ho a (by omega))).cgw S.2.1 (fun j hj => wo j (by omega)), S.2.1.cgw (fun j _ hj => wo j (by omega)), by rw [wo 0 (by omega), wo 1 (by omega)]; exact S.2.2.1, ⟨n + 1, by omega, apH_c, w4, fun r hr => ?_⟩, ?_, (S.2.2.2.2.2.cgt (fun a h1 h2 => ho a (by omega))).cgw (grow.of S.2.1 (fun j _ hj => wo j (by omega))) (fun j h1 _ => wo j (by omega))⟩, ⟨ho 29 (by omega), ho 30 (by omega), ho 31 (by omega)⟩, ⟨fun k _ => wo _ (by omega), mo 2 (by decide), by rw [mo 0 (by decide)], mo 9 (by decide), by rw [mo 0 (by decide)]⟩⟩
    · have wr : ∀ j, 405 + 5 * r ≤ j → j ≤ 405 + 5 * r + 4 → m'.1 1 j = (lyM m (405 + 5 * n) v1 v2 v3 v4 v5).1 1 j := fun j h1 h2 => by rw [← hm', upI_s, if_neg (by omega)]
      rw [wr _ (by omega) (by omega), wr _ (by omega) (by omega), wr _ (by omega) (by omega), wr _ (by omega) (by omega), wr _ (by omega) (by omega)]
      show (apH h 14 n v1 v2 v3 v4 v5).1 (14 + 1) r = _ ∧ (apH h 14 n v1 v2 v3 v4 v5).1 (14 + 2) r = _ ∧ (apH h 14 n v1 v2 v3 v4 v5).1 (14 + 3) r = _ ∧ (apH h 14 n v1 v2 v3 v4 v5).1 (14 + 4) r = _ ∧ (apH h 14 n v1 v2 v3 v4 v5).1 (14 + 5) r = _
      rw [apH_1, apH_2, apH_3, apH_4, apH_5]
      by_cases z : r = n
      · rw [z]
        simp only [if_true]
        refine ⟨?_, ?_, ?_, ?_, ?_⟩
        · rw [lyM_at, if_neg (by omega), if_neg (by omega), if_neg (by omega), if_neg (by omega), if_pos rfl]
        · rw [lyM_at, if_neg (by omega), if_neg (by omega), if_neg (by omega), if_pos rfl]
        · rw [lyM_at, if_neg (by omega), if_neg (by omega), if_pos rfl]
        · rw [lyM_at, if_neg (by omega), if_pos rfl]
        · rw [lyM_at, if_pos rfl]
      · simp only [if_neg z]
        rw [lyM_out (by omega), lyM_out (by omega), lyM_out (by omega), lyM_out (by omega), lyM_out (by omega)]
        exact e3 r (by omega)
    · exact TV.cgw (w := m.1 1) (by
        unfold TV; rw [ho (1 + 19) (by omega), ho (1 + 20) (by omega), ho (1 + 21) (by omega)]; exact S.2.2.2.2.1) (fun j h1 _ => wo j (by omega))
  · rw [X_append40 e1, if_pos (show nI 40 = (40 : Int32) from rfl)]
    exact ⟨h, m, -1, rfl, rfl, S, keepNet.rf, keepMN.rf⟩
set_option maxHeartbeats 400000 in
theorem q_clear {h m : HP} (S : RT h 1 (m.1 1)) : AlikeS h m (f_TJ_clear 0 h) (f_Mo_clear 0 m) := by
  obtain ⟨n, hn, e1, e2, e3⟩ := S.2.2.2.1
  unfold f_TJ_clear f_Mo_clear
  simp only [Nat.zero_add, Nat.reduceAdd, ix404] at *
  rw [e1, e2]
  have wo : ∀ j, j ≠ 404 → (upI m 1 404 0).1 1 j = m.1 1 j := fun j hj => by rw [upI_s, if_neg hj]
  have ho : ∀ a, a ≠ 14 → (upI h 14 5 0).1 a = h.1 a := fun a ha => upI_at _ _ _ _ ha
  refine ⟨_, _, _, rfl, rfl, ⟨(S.1.cgt (fun a h1 h2 => ho a (by omega))).cgw S.2.1 (fun j hj => wo j (by omega)), S.2.1.cgw (fun j _ hj => wo j (by omega)), by rw [wo 0 (by omega), wo 1 (by omega)]; exact S.2.2.1, ⟨0, by omega, by rw [upI_s, if_pos rfl]; rfl, by rw [upI_s, if_pos rfl]; rfl, fun r hr => by omega⟩, ?_, (S.2.2.2.2.2.cgt (fun a h1 h2 => ho a (by omega))).cgw (grow.of S.2.1 (fun j _ hj => wo j (by omega))) (fun j h1 _ => wo j (by omega))⟩, ⟨ho 29 (by omega), ho 30 (by omega), ho 31 (by omega)⟩, ⟨fun k _ => wo _ (by omega), upI_at _ _ _ _ (by decide), by rw [upI_at _ _ _ _ (by decide)], upI_at _ _ _ _ (by decide), by rw [upI_at _ _ _ _ (by decide)]⟩⟩
  exact TV.cgw (w := m.1 1) (by
    unfold TV; rw [ho (1 + 19) (by omega), ho (1 + 20) (by omega), ho (1 + 21) (by omega)]; exact S.2.2.2.2.1) (fun j h1 _ => wo j (by omega))
set_option maxHeartbeats 400000 in
theorem q_leave {h m : HP} (S : RT h 1 (m.1 1)) : AlikeS h m (f_TJ_leave 0 h) (f_Mo_leave 0 m) := by
  obtain ⟨r1, r2, r3⟩ := S.2.2.2.2.2.run
  unfold f_TJ_leave f_Mo_leave f_Mo_isSweeping
  simp only [Nat.zero_add, Nat.reduceAdd, ix614]
  rw [r1, if_pos r2]
  have e0 : (if m.1 1 614 = 1 then some 1 else some (0 : Int32)) = some (m.1 1 614) := by
    rcases r2 with e | e
    · rw [e, if_neg (by decide)]
    · rw [e, if_pos rfl]
  rw [e0]
  simp only [Option.bind_some]
  rw [if_pos r2]
  have wo : ∀ j, j ≠ 614 → (upI m 1 614 0).1 1 j = m.1 1 j := fun j hj => by rw [upI_s, if_neg hj]
  have ho : ∀ a, a ≠ 23 → (upI h 23 3 0).1 a = h.1 a := fun a ha => upI_at _ _ _ _ ha
  have hs : ∀ j, j ≠ 3 → (upI h 23 3 0).1 23 j = h.1 23 j := fun j hj => by rw [upI_s, if_neg hj]
  refine ⟨_, _, _, rfl, rfl, ⟨(S.1.cgt (fun a h1 h2 => ho a (by omega))).cgw S.2.1 (fun j hj => wo j (by omega)), S.2.1.cgw (fun j _ hj => wo j (by omega)), by rw [wo 0 (by omega), wo 1 (by omega)]; exact S.2.2.1, (S.2.2.2.1.cgt (fun a h1 h2 => ho a (by omega))).cgw (fun j h1 h2 => wo j (by omega)), ?_, ?_⟩, ⟨ho 29 (by omega), ho 30 (by omega), ho 31 (by omega)⟩, ⟨fun k _ => wo _ (by omega), upI_at _ _ _ _ (by decide), by rw [upI_at _ _ _ _ (by decide)], upI_at _ _ _ _ (by decide), by rw [upI_at _ _ _ _ (by decide)]⟩⟩
  · exact TV.cgw (w := m.1 1) (by
      unfold TV; rw [ho (1 + 19) (by omega), ho (1 + 20) (by omega), ho (1 + 21) (by omega)]; exact S.2.2.2.2.1) (fun j h1 _ => wo j (by omega))
  · -- the course stands still
    have g := grow.of S.2.1 (w' := (upI m 1 614 0).1 1) (fun j _ hj => wo j (by omega))
    obtain ⟨T, G, np, E, AC, A, c1, c2, c3, c4, w1, ⟨x1, x2, x3, x4, x5, x6, x7, x8⟩, y1, y2, y3, p⟩ := S.2.2.2.2.2
    have C0 : CV (upI h 23 3 (m.1 1 614)) 1 (m.1 1) := S.2.2.2.2.2.cgt (fun a h1 h2 => by
      funext j
      by_cases z : a = 23
      · rw [z, upI_s]; split
        · rename_i e; rw [e]; exact r1.symm
        · rfl
      · rw [upI_at _ _ _ _ z])
    -- rewrite piece by piece
    have w614 : (upI m 1 614 0).1 1 614 = 0 := by rw [upI_s, if_pos rfl]
    have pe : ∀ k, k < T → evC ((upI m 1 614 0).1 1) (E k) = evC (m.1 1) (E k) ∧ ruE ((upI m 1 614 0).1 1) (E k) = ruE (m.1 1) (E k) := fun k hk => by
      obtain ⟨h1, h2⟩ := c2.1 k hk
      have f := (g _ (sE_lt h1)).2
      unfold evC ruE plE sp ep
      rw [f _ 0 h2 (by omega), f _ 2 h2 (by omega), f _ 3 h2 (by omega)]
      exact ⟨rfl, rfl⟩
    have hnp := np_le c4
    refine ⟨T, G, np, E, AC, A, ⟨c1.1, c1.2.1, Or.inl w614⟩, ⟨fun k hk => ⟨(c2.1 k hk).1, Nat.lt_of_lt_of_le (c2.1 k hk).2 (g _ (sE_lt (c2.1 k hk).1)).1⟩, c2.2⟩, c3, c4, ⟨by rw [wo 615 (by omega)]; exact w1.1, by rw [wo 616 (by omega)]; exact w1.2.1, fun k hk => ?_, fun s hs => ?_, by rw [wo 863 (by omega)]; exact w1.2.2.2.2⟩, ⟨?_, ?_, ?_, ?_, ?_, ?_, ?_, ?_⟩, fun k hk => ?_, fun s hs => ?_, fun u hu => ?_, fun i hi => ?_⟩
    · rw [wo _ (by omega)]; exact w1.2.2.1 k hk
    · have := AC_40 c3 hs
      rw [wo _ (by omega)]
      exact ⟨(w1.2.2.2.1 s hs).1, fun i hi => by rw [wo _ (by omega)]; exact (w1.2.2.2.1 s hs).2 i hi⟩
    · show (upI h 23 3 0).1 23 1 = _; rw [hs 1 (by omega)]; exact x1
    · show (upI h 23 3 0).1 23 2 = _; rw [hs 2 (by omega)]; exact x2
    · show (upI h 23 3 0).1 23 3 = _; rw [upI_s, if_pos rfl, w614]
    · show (upI h 23 3 0).1 23 8 = _; rw [hs 8 (by omega)]; exact x4
    · show (upI h 23 3 0).1 23 9 = _; rw [hs 9 (by omega), wo 617 (by omega)]; exact x5
    · show (upI h 23 3 0).1 23 10 = _; rw [hs 10 (by omega), wo 618 (by omega)]; exact x6
    · show (upI h 23 3 0).1 23 11 = _; rw [hs 11 (by omega), wo 619 (by omega)]; exact x7
    · show (upI h 23 3 0).1 23 12 = _; rw [hs 12 (by omega), wo 620 (by omega)]; exact x8
    · rw [ho _ (by omega), y1 k hk, (pe k hk).1]
    · rw [ho _ (by omega), ho _ (by omega)]; exact y2 s hs
    · rw [ho _ (by omega), y3 u hu]; exact congrArg nI (cN_congr T (fun k hk => by rw [(pe k hk).2]))
    · obtain ⟨l, r, hl, hr, p1, p2, p3⟩ := p i hi
      refine ⟨l, r, Nat.lt_of_lt_of_le hl (g 0 (by omega)).1, Nat.lt_of_lt_of_le hr (g 1 (by omega)).1, ?_, ?_, ?_⟩
      · rw [wo _ (by omega)]; exact p1
      · rw [wo _ (by omega)]; exact p2
      · rw [ho _ (by omega)]; exact p3
