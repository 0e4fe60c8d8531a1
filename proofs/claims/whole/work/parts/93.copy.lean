/-! one State copied into another -/
set_option maxHeartbeats 400000 in
theorem cpA_ne {h : HP} {c0 c1 n a : Nat} (ha : a ≠ c1) : (cpA h c0 c1 n).1 a = h.1 a := by funext b; simp [cpA, ha]
set_option maxHeartbeats 400000 in
theorem cpA_at {h : HP} {c0 c1 n j : Nat} (hj : j < n) : (cpA h c0 c1 n).1 c1 j = h.1 c0 j := by simp [cpA, hj]
/-- field k of cell v comes to cell c -/
def cC (c v k : Nat) (h : HP) : HP := upI h c k (h.1 v k)
set_option maxHeartbeats 400000 in
theorem cC_ne {c v k a : Nat} {h : HP} (ha : a ≠ c) : (cC c v k h).1 a = h.1 a := upI_at _ _ _ _ ha
set_option maxHeartbeats 400000 in
theorem cC_at {c v k j : Nat} {h : HP} : (cC c v k h).1 c j = if j = k then h.1 v k else h.1 c j := upI_s _ _ _ _ _
set_option maxHeartbeats 400000 in
theorem Ro_cp (c v : Nat) (h : HP) (hd : v + 5 < c ∨ c + 5 < v) : ∃ h', f_Ro_copyFrom c h v = some h' ∧ h'.1 c 5 = h.1 v 5 ∧ (∀ k, 1 ≤ k → k ≤ 5 → ∀ j, j < 40 → h'.1 (c + k) j = h.1 (v + k) j) ∧ ∀ a, (a < c ∨ c + 5 < a) → h'.1 a = h.1 a := by
  refine ⟨_, rfl, ?_, fun k k1 k5 j hj => ?_, fun a ha => ?_⟩
  · rw [cpA_ne (by omega), cpA_ne (by omega), cpA_ne (by omega), cpA_ne (by omega), cpA_ne (by omega), upI_s, if_pos rfl]
  · rcases (show k = 1 ∨ k = 2 ∨ k = 3 ∨ k = 4 ∨ k = 5 by omega) with z | z | z | z | z <;> subst z
    · rw [cpA_ne (by omega), cpA_ne (by omega), cpA_ne (by omega), cpA_ne (by omega), cpA_at hj, upI_at _ _ _ _ (by omega)]
    · rw [cpA_ne (by omega), cpA_ne (by omega), cpA_ne (by omega), cpA_at hj, cpA_ne (by omega), upI_at _ _ _ _ (by omega)]
    · rw [cpA_ne (by omega), cpA_ne (by omega), cpA_at hj, cpA_ne (by omega), cpA_ne (by omega), upI_at _ _ _ _ (by omega)]
    · rw [cpA_ne (by omega), cpA_at hj, cpA_ne (by omega), cpA_ne (by omega), cpA_ne (by omega), upI_at _ _ _ _ (by omega)]
    · rw [cpA_at hj, cpA_ne (by omega), cpA_ne (by omega), cpA_ne (by omega), cpA_ne (by omega), upI_at _ _ _ _ (by omega)]
  · rw [cpA_ne (by omega), cpA_ne (by omega), cpA_ne (by omega), cpA_ne (by omega), cpA_ne (by omega), upI_at _ _ _ _ (by omega)]
set_option maxHeartbeats 400000 in
theorem Tr_cp (c v : Nat) (h : HP) (hd : v + 2 < c ∨ c + 2 < v) : ∃ h', f_Tr_copyFrom c h v = some h' ∧ h'.1 c 2 = h.1 v 2 ∧ (∀ k, 1 ≤ k → k ≤ 2 → ∀ j, j < 3 → h'.1 (c + k) j = h.1 (v + k) j) ∧ ∀ a, (a < c ∨ c + 2 < a) → h'.1 a = h.1 a := by
  refine ⟨_, rfl, ?_, fun k k1 k5 j hj => ?_, fun a ha => ?_⟩
  · rw [cpA_ne (by omega), cpA_ne (by omega), upI_s, if_pos rfl]
  · rcases (show k = 1 ∨ k = 2 by omega) with z | z <;> subst z
    · rw [cpA_ne (by omega), cpA_at hj, upI_at _ _ _ _ (by omega)]
    · rw [cpA_at hj, cpA_ne (by omega), upI_at _ _ _ _ (by omega)]
  · rw [cpA_ne (by omega), cpA_ne (by omega), upI_at _ _ _ _ (by omega)]
set_option maxHeartbeats 400000 in
theorem We_cp (c v : Nat) (h : HP) (hd : v + 2 < c ∨ c + 2 < v) (hb : h.1 v 2 = 0 ∨ h.1 v 2 = 1) : ∃ h', f_We_copyFrom c h v = some h' ∧ h'.1 c 2 = h.1 v 2 ∧ (∀ k, 1 ≤ k → k ≤ 2 → ∀ j, j < 36 → h'.1 (c + k) j = h.1 (v + k) j) ∧ ∀ a, (a < c ∨ c + 2 < a) → h'.1 a = h.1 a := by
  have e : (cpA (cpA h (v + 1) (c + 1) 36) (v + 2) (c + 2) 36).1 v = h.1 v := by rw [cpA_ne (by omega), cpA_ne (by omega)]
  refine ⟨_, by unfold f_We_copyFrom; rw [e, if_pos hb], ?_, fun k k1 k5 j hj => ?_, fun a ha => ?_⟩
  · rw [upI_s, if_pos rfl]
  · rw [upI_at _ _ _ _ (by omega)]
    rcases (show k = 1 ∨ k = 2 by omega) with z | z <;> subst z
    · rw [cpA_ne (by omega), cpA_at hj]
    · rw [cpA_at hj, cpA_ne (by omega)]
  · rw [upI_at _ _ _ _ (by omega), cpA_ne (by omega), cpA_ne (by omega)]
/-- the arrays of a course -/
def cuA (c v : Nat) (h : HP) : HP := cpA (cpA (cpA (cpA (cpA h (v + 1) (c + 1) 160) (v + 2) (c + 2) 80) (v + 3) (c + 3) 2) (v + 4) (c + 4) 8) (v + 5) (c + 5) 1600
def cuB (c v : Nat) (h : HP) : HP := cC c v 2 (cC c v 1 (cuA c v h))
def cuD (c v : Nat) (h : HP) : HP := cC c v 12 (cC c v 11 (cC c v 10 (cC c v 9 (cC c v 8 (cC c v 3 (cuB c v h))))))
set_option maxHeartbeats 4000000 in
theorem Cu_cp_eq (c v : Nat) (h : HP) : f_Cu_copyFrom c h v = if (cuB c v h).1 v 3 = 0 ∨ (cuB c v h).1 v 3 = 1 then some (cuD c v h) else none := rfl
def cuL (k : Nat) : Nat := if k = 1 then 160 else if k = 2 then 80 else if k = 3 then 2 else if k = 4 then 8 else 1600
def cuF (k : Nat) : Prop := k = 1 ∨ k = 2 ∨ k = 3 ∨ k = 8 ∨ k = 9 ∨ k = 10 ∨ k = 11 ∨ k = 12
set_option maxHeartbeats 400000 in
theorem cuA_ne {c v a : Nat} {h : HP} (ha : a < c + 1 ∨ c + 5 < a) : (cuA c v h).1 a = h.1 a := by
  unfold cuA
  rw [cpA_ne (by omega), cpA_ne (by omega), cpA_ne (by omega), cpA_ne (by omega), cpA_ne (by omega)]
set_option maxHeartbeats 400000 in
theorem cuA_at {c v : Nat} {h : HP} (hd : v + 5 < c ∨ c + 5 < v) (k : Nat) (k1 : 1 ≤ k) (k5 : k ≤ 5) (j : Nat) (hj : j < cuL k) : (cuA c v h).1 (c + k) j = h.1 (v + k) j := by
  unfold cuA
  rcases (show k = 1 ∨ k = 2 ∨ k = 3 ∨ k = 4 ∨ k = 5 by omega) with z | z | z | z | z <;> subst z
  · have hj : j < 160 := hj
    rw [cpA_ne (by omega), cpA_ne (by omega), cpA_ne (by omega), cpA_ne (by omega), cpA_at hj]
  · have hj : j < 80 := hj
    rw [cpA_ne (by omega), cpA_ne (by omega), cpA_ne (by omega), cpA_at hj, cpA_ne (by omega)]
  · have hj : j < 2 := hj
    rw [cpA_ne (by omega), cpA_ne (by omega), cpA_at hj, cpA_ne (by omega), cpA_ne (by omega)]
  · have hj : j < 8 := hj
    rw [cpA_ne (by omega), cpA_at hj, cpA_ne (by omega), cpA_ne (by omega), cpA_ne (by omega)]
  · have hj : j < 1600 := hj
    rw [cpA_at hj, cpA_ne (by omega), cpA_ne (by omega), cpA_ne (by omega), cpA_ne (by omega)]
set_option maxHeartbeats 400000 in
theorem cuD_ne {c v a : Nat} {h : HP} (ha : a ≠ c) : (cuD c v h).1 a = (cuA c v h).1 a := by
  unfold cuD cuB
  rw [cC_ne ha, cC_ne ha, cC_ne ha, cC_ne ha, cC_ne ha, cC_ne ha, cC_ne ha, cC_ne ha]
set_option maxHeartbeats 400000 in
theorem cuD_at {c v k : Nat} {h : HP} (hd : v ≠ c) (hk : cuF k) : (cuD c v h).1 c k = (cuA c v h).1 v k := by
  unfold cuD cuB
  have n := hd
  simp only [cC_at, cC_ne n]
  rcases hk with z | z | z | z | z | z | z | z <;> subst z <;> rfl
set_option maxHeartbeats 400000 in
theorem Cu_cp (c v : Nat) (h : HP) (hd : v + 5 < c ∨ c + 5 < v) (hb : h.1 v 3 = 0 ∨ h.1 v 3 = 1) : ∃ h', f_Cu_copyFrom c h v = some h' ∧ (∀ k, cuF k → h'.1 c k = h.1 v k) ∧ (∀ k, 1 ≤ k → k ≤ 5 → ∀ j, j < cuL k → h'.1 (c + k) j = h.1 (v + k) j) ∧ ∀ a, (a < c ∨ c + 5 < a) → h'.1 a = h.1 a := by
  have e : (cuB c v h).1 v = h.1 v := by unfold cuB; rw [cC_ne (by omega), cC_ne (by omega), cuA_ne (by omega)]
  refine ⟨cuD c v h, by rw [Cu_cp_eq, e, if_pos hb], fun k hk => ?_, fun k k1 k5 j hj => ?_, fun a ha => ?_⟩
  · rw [cuD_at (by omega) hk, cuA_ne (by omega)]
  · rw [cuD_ne (by omega)]; exact cuA_at hd k k1 k5 j hj
  · rw [cuD_ne (by omega), cuA_ne (by omega)]
/-- what of a State is looked at -/
def inS (k j : Nat) : Prop := (k = 0 ∧ (j = 6 ∨ j = 7)) ∨ ((k = 1 ∨ k = 7 ∨ k = 13) ∧ j = 5) ∨ (((2 ≤ k ∧ k ≤ 6) ∨ (8 ≤ k ∧ k ≤ 12) ∨ (14 ≤ k ∧ k ≤ 18)) ∧ j < 40) ∨ (k = 19 ∧ j = 2) ∨ ((k = 20 ∨ k = 21) ∧ j < 3) ∨ (k = 22 ∧ cuF j) ∨ (k = 23 ∧ j < 160) ∨ (k = 24 ∧ j < 80) ∨ (k = 25 ∧ j < 2) ∨ (k = 26 ∧ j < 8) ∨ (k = 27 ∧ j < 1600) ∨ (k = 28 ∧ j = 2) ∨ ((k = 29 ∨ k = 30) ∧ j < 36)
def cpd (h h' : HP) (v c : Nat) : Prop := ∀ k j, inS k j → h'.1 (c + k) j = h.1 (v + k) j
set_option maxHeartbeats 2000000 in
theorem St_cp (c v : Nat) (h : HP) (hd : v + 30 < c ∨ c + 30 < v) (b1 : h.1 (v + 22) 3 = 0 ∨ h.1 (v + 22) 3 = 1) (b2 : h.1 (v + 28) 2 = 0 ∨ h.1 (v + 28) 2 = 1) (b3 : h.1 v 6 = 0 ∨ h.1 v 6 = 1) : ∃ h', f_St_copyFrom c h v = some h' ∧ cpd h h' v c ∧ ∀ a, (a < c ∨ c + 30 < a) → h'.1 a = h.1 a := by
  obtain ⟨h1, e1, p1, q1, f1⟩ := Ro_cp (c + 1) (v + 1) h (by omega)
  obtain ⟨h2, e2, p2, q2, f2⟩ := Ro_cp (c + 7) (v + 7) h1 (by omega)
  obtain ⟨h3, e3, p3, q3, f3⟩ := Ro_cp (c + 13) (v + 13) h2 (by omega)
  obtain ⟨h4, e4, p4, q4, f4⟩ := Tr_cp (c + 19) (v + 19) h3 (by omega)
  have g1 : ∀ a, (a < c + 1 ∨ c + 6 < a) → h1.1 a = h.1 a := fun a ha => f1 a (by omega)
  have g2 : ∀ a, (a < c + 1 ∨ c + 12 < a) → h2.1 a = h.1 a := fun a ha => (f2 a (by omega)).trans (g1 a (by omega))
  have g3 : ∀ a, (a < c + 1 ∨ c + 18 < a) → h3.1 a = h.1 a := fun a ha => (f3 a (by omega)).trans (g2 a (by omega))
  have g4 : ∀ a, (a < c + 1 ∨ c + 21 < a) → h4.1 a = h.1 a := fun a ha => (f4 a (by omega)).trans (g3 a (by omega))
  obtain ⟨h5, e5, p5, q5, f5⟩ := Cu_cp (c + 22) (v + 22) h4 (by omega) (by rw [g4 _ (by omega)]; exact b1)
  have g5 : ∀ a, (a < c + 1 ∨ c + 27 < a) → h5.1 a = h.1 a := fun a ha => (f5 a (by omega)).trans (g4 a (by omega))
  obtain ⟨h6, e6, p6, q6, f6⟩ := We_cp (c + 28) (v + 28) h5 (by omega) (by rw [g5 _ (by omega)]; exact b2)
  have g6 : ∀ a, (a < c + 1 ∨ c + 30 < a) → h6.1 a = h.1 a := fun a ha => (f6 a (by omega)).trans (g5 a (by omega))
  have ev : h6.1 v = h.1 v := g6 v (by omega)
  refine ⟨cC c v 7 (cC c v 6 h6), ?_, ?_, fun a ha => by rw [cC_ne (by omega), cC_ne (by omega)]; exact g6 a (by omega)⟩
  · unfold f_St_copyFrom
    refine bsome e1 (bsome e2 (bsome e3 (bsome e4 (bsome e5 (bsome e6 ?_)))))
    rw [if_pos (by rw [ev]; exact b3)]
    rfl
  · intro k j hk
    have nz : k ≠ 0 → (cC c v 7 (cC c v 6 h6)).1 (c + k) = h6.1 (c + k) := fun z => by rw [cC_ne (by omega), cC_ne (by omega)]
    rcases hk with ⟨z, hj⟩ | ⟨z, hj⟩ | ⟨z, hj⟩ | ⟨z, hj⟩ | ⟨z, hj⟩ | ⟨z, hj⟩ | ⟨z, hj⟩ | ⟨z, hj⟩ | ⟨z, hj⟩ | ⟨z, hj⟩ | ⟨z, hj⟩ | ⟨z, hj⟩ | ⟨z, hj⟩
    · subst z
      show (cC c v 7 (cC c v 6 h6)).1 c j = h.1 v j
      rw [cC_at, cC_ne (by omega), cC_at, ev]
      rcases hj with z | z <;> subst z <;> rfl
    · rw [nz (by omega)]
      rcases z with z | z | z <;> subst z <;> subst hj
      · rw [f6 _ (by omega), f5 _ (by omega), f4 _ (by omega), f3 _ (by omega), f2 _ (by omega)]; exact p1
      · rw [f6 _ (by omega), f5 _ (by omega), f4 _ (by omega), f3 _ (by omega), p2, g1 _ (by omega)]
      · rw [f6 _ (by omega), f5 _ (by omega), f4 _ (by omega), p3, g2 _ (by omega)]
    · rw [nz (by omega)]
      rcases z with z | z | z
      · rw [f6 _ (by omega), f5 _ (by omega), f4 _ (by omega), f3 _ (by omega), f2 _ (by omega), show c + k = c + 1 + (k - 1) by omega, show v + k = v + 1 + (k - 1) by omega]
        exact q1 (k - 1) (by omega) (by omega) j hj
      · rw [f6 _ (by omega), f5 _ (by omega), f4 _ (by omega), f3 _ (by omega), show c + k = c + 7 + (k - 7) by omega, q2 (k - 7) (by omega) (by omega) j hj, show v + 7 + (k - 7) = v + k by omega, g1 _ (by omega)]
      · rw [f6 _ (by omega), f5 _ (by omega), f4 _ (by omega), show c + k = c + 13 + (k - 13) by omega, q3 (k - 13) (by omega) (by omega) j hj, show v + 13 + (k - 13) = v + k by omega, g2 _ (by omega)]
    · rw [nz (by omega)]; subst z; subst hj
      rw [f6 _ (by omega), f5 _ (by omega), p4, g3 _ (by omega)]
    · rw [nz (by omega), f6 _ (by omega), f5 _ (by omega), show c + k = c + 19 + (k - 19) by omega, q4 (k - 19) (by omega) (by omega) j hj, show v + 19 + (k - 19) = v + k by omega, g3 _ (by omega)]
    · rw [nz (by omega)]; subst z
      rw [f6 _ (by omega), p5 j hj, g4 _ (by omega)]
    · rw [nz (by omega)]; subst z
      rw [f6 _ (by omega), show c + 23 = c + 22 + 1 by omega, q5 1 (by omega) (by omega) j hj, show v + 22 + 1 = v + 23 by omega, g4 _ (by omega)]
    · rw [nz (by omega)]; subst z
      rw [f6 _ (by omega), show c + 24 = c + 22 + 2 by omega, q5 2 (by omega) (by omega) j hj, show v + 22 + 2 = v + 24 by omega, g4 _ (by omega)]
    · rw [nz (by omega)]; subst z
      rw [f6 _ (by omega), show c + 25 = c + 22 + 3 by omega, q5 3 (by omega) (by omega) j hj, show v + 22 + 3 = v + 25 by omega, g4 _ (by omega)]
    · rw [nz (by omega)]; subst z
      rw [f6 _ (by omega), show c + 26 = c + 22 + 4 by omega, q5 4 (by omega) (by omega) j hj, show v + 22 + 4 = v + 26 by omega, g4 _ (by omega)]
    · rw [nz (by omega)]; subst z
      rw [f6 _ (by omega), show c + 27 = c + 22 + 5 by omega, q5 5 (by omega) (by omega) j hj, show v + 22 + 5 = v + 27 by omega, g4 _ (by omega)]
    · rw [nz (by omega)]; subst z; subst hj
      rw [p6, g5 _ (by omega)]
    · rw [nz (by omega), show c + k = c + 28 + (k - 28) by omega, q6 (k - 28) (by omega) (by omega) j hj, show v + 28 + (k - 28) = v + k by omega, g5 _ (by omega)]
/-! what is copied stands in the same relation -/
set_option maxHeartbeats 1000000 in
theorem RV.cp {h h' : HP} {v c o : Nat} {w : Nat → Int32} {s n : Nat} (C : cpd h h' v c) (ho : o = 1 ∨ o = 7) (V : RV h (v + o) w s n) : RV h' (c + o) w s n := by
  obtain ⟨n40, e, r⟩ := V
  have a : ∀ i, 1 ≤ i → i ≤ 5 → ∀ j, j < 40 → h'.1 (c + o + i) j = h.1 (v + o + i) j := fun i i1 i5 j hj => by
    rw [show c + o + i = c + (o + i) by omega, show v + o + i = v + (o + i) by omega]
    exact C (o + i) j (Or.inr (Or.inr (Or.inl ⟨by omega, hj⟩)))
  refine ⟨n40, by rw [C o 5 (Or.inr (Or.inl ⟨by omega, rfl⟩))]; exact e, fun k hk => ?_⟩
  rw [a 1 (by omega) (by omega) k (by omega), a 2 (by omega) (by omega) k (by omega), a 3 (by omega) (by omega) k (by omega), a 4 (by omega) (by omega) k (by omega), a 5 (by omega) (by omega) k (by omega)]
  exact r k hk
set_option maxHeartbeats 1000000 in
theorem RT.cp {h h' : HP} {v c : Nat} {w : Nat → Int32} (C : cpd h h' v c) (S : RT h v w) : RT h' c w := by
  obtain ⟨⟨s1, s2, s3, s4⟩, r, st, ⟨n, bn, b1, b2, b3⟩, ⟨n', tn, t1, t2, t3⟩, ⟨T, G, np, E, AC, A, c1, c2, c3, c4, c5, ⟨d1, d2, d3, d4, d5, d6, d7, d8⟩, c7, c8, c9, c10⟩⟩ := S
  have x0 : ∀ j, (j = 6 ∨ j = 7) → h'.1 c j = h.1 v j := fun j hj => C 0 j (Or.inl ⟨rfl, hj⟩)
  refine ⟨⟨by rw [x0 6 (by omega)]; exact s1, by rw [x0 7 (by omega)]; exact s2, s3.cp C (by omega), s4.cp C (by omega)⟩, r, st, ⟨n, bn, ?_, b2, fun k hk => ?_⟩, ⟨n', tn, ?_, t2, fun k hk => ?_⟩, ⟨T, G, np, E, AC, A, c1, c2, c3, c4, c5, ?_, fun k hk => ?_, fun s hs => ?_, fun u hu => ?_, fun i hi => ?_⟩⟩
  · rw [C 13 5 (Or.inr (Or.inl ⟨by omega, rfl⟩))]; exact b1
  · have a : ∀ i, 14 ≤ i → i ≤ 18 → h'.1 (c + i) k = h.1 (v + i) k := fun i i1 i5 => C i k (Or.inr (Or.inr (Or.inl ⟨by omega, by omega⟩)))
    rw [a 14 (by omega) (by omega), a 15 (by omega) (by omega), a 16 (by omega) (by omega), a 17 (by omega) (by omega), a 18 (by omega) (by omega)]
    exact b3 k hk
  · rw [C 19 2 (by unfold inS; omega)]; exact t1
  · rw [C 20 k (by unfold inS; omega), C 21 k (by unfold inS; omega)]; exact t3 k hk
  · have a : ∀ i, cuF i → h'.1 (c + 22) i = h.1 (v + 22) i := fun i hi => C 22 i (Or.inr (Or.inr (Or.inr (Or.inr (Or.inr (Or.inl ⟨rfl, hi⟩))))))
    rw [a 1 (by unfold cuF; omega), a 2 (by unfold cuF; omega), a 3 (by unfold cuF; omega), a 8 (by unfold cuF; omega), a 9 (by unfold cuF; omega), a 10 (by unfold cuF; omega), a 11 (by unfold cuF; omega), a 12 (by unfold cuF; omega)]
    exact ⟨d1, d2, d3, d4, d5, d6, d7, d8⟩
  · rw [C 23 k (by unfold inS; omega)]; exact c7 k hk
  · have h40 := AC_40 c3 hs
    refine ⟨by rw [C 25 s (by unfold inS; omega)]; exact (c8 s hs).1, fun i hi => by rw [C 24 (40 * s + i) (by unfold inS; omega)]; exact (c8 s hs).2 i hi⟩
  · rw [C 26 u (by unfold inS; omega)]; exact c9 u hu
  · have h16 := np_le c4
    rw [C 27 i (by unfold inS; omega)]; exact c10 i hi
set_option maxHeartbeats 1000000 in
theorem NV.cp {h h' : HP} {v c : Nat} {w : Nat → Int32} (C : cpd h h' v c) (S : NV h v w) : NV h' c w := by
  obtain ⟨N, ok, e, d⟩ := S
  refine ⟨N, ok, fun j hj => ⟨(e j hj).1, by rw [C 29 j (by unfold inS; omega)]; exact (e j hj).2⟩, ?_⟩
  rw [C 28 2 (by unfold inS; omega)]
  rcases d with z | ⟨z, G, g1, g2⟩
  · exact Or.inl z
  · exact Or.inr ⟨z, G, g1, fun j hj => by rw [C 30 j (by unfold inS; omega)]; exact g2 j hj⟩
set_option maxHeartbeats 400000 in
/-- the flags of a State are 0 or 1 -/
theorem RT.flags {h : HP} {v : Nat} {w : Nat → Int32} (S : RT h v w) : (h.1 (v + 22) 3 = 0 ∨ h.1 (v + 22) 3 = 1) ∧ (h.1 v 6 = 0 ∨ h.1 v 6 = 1) := by
  obtain ⟨⟨s1, -⟩, -, ⟨st, -⟩, -, -, ⟨T, G, np, E, AC, A, ⟨-, -, c1⟩, -, -, -, -, ⟨-, -, d3, -⟩, -⟩⟩ := S
  refine ⟨?_, by rw [s1]; exact st⟩
  rw [d3]
  rcases c1 with z | z
  · exact Or.inl z
  · exact Or.inr z.1
set_option maxHeartbeats 400000 in
theorem NV.flag {h : HP} {v : Nat} {w : Nat → Int32} (S : NV h v w) : h.1 (v + 28) 2 = 0 ∨ h.1 (v + 28) 2 = 1 := by
  obtain ⟨N, ok, e, d⟩ := S
  rcases d with z | z
  · exact Or.inl z
  · exact Or.inr z.1
