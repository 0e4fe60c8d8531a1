/-! lay: alike -/
section LM4
variable {m0 m h : HP} {w : Nat → Int32} {s n : Nat}
set_option maxHeartbeats 400000 in
theorem M_ly33 (hw : m0.1 1 = w) (R : RowsOk w) (hs : s < 2) (hn : n ≤ 6) (hns : n ≤ nS w s) : ∃ m', f_Mo_lay_l33 0 m0 (nI s) (nI n) (m0, 0) = some (m', 1) ∧ lyM2 m0 m' (knS w s) n 6 0 := by
  unfold f_Mo_lay_l33
  have key := loop_inv (body := fun x : HP × Int32 => f_Mo_lay_b33 0 x.1 (nI s) (nI n) x.2) (fun i x => ∃ m' : HP, x = (m', nI i) ∧ lyM2 m0 m' (knS w s) n i 0) 6 (fun y => ∃ m' : HP, y = (m', 1) ∧ lyM2 m0 m' (knS w s) n 6 0) (fun i x hi hI => ?_) (fun x hI => ?_) (m0, 0) ⟨m0, rfl, fun j hj => ⟨fun d => absurd d (by unfold dnM; omega), fun _ => rfl⟩, fun _ _ => rfl, fun _ _ => rfl⟩
  · obtain ⟨y, e, m', rfl, L'⟩ := key
    exact ⟨m', e, L'⟩
  · obtain ⟨m', rfl, L'⟩ := hI
    obtain ⟨m2, e2, L2⟩ := M_ly42 hw R hs hn hns hi L'
    show ∃ s', f_Mo_lay_b33 0 m' (nI s) (nI n) (nI i) = some (Sum.inl s') ∧ _
    unfold f_Mo_lay_b33
    rw [if_neg (show ¬ (6 : Int32) ≤ nI i from nI_ge (b := 6) hi (by decide)), e2]
    refine ⟨_, rfl, m2, rfl, fun j hj => ?_, L2.2⟩
    have same : dnM (i + 1) 0 j ↔ dnM i i j := by unfold dnM; omega
    rw [same]; exact L2.1 j hj
  · obtain ⟨m', rfl, L'⟩ := hI
    show ∃ t, f_Mo_lay_b33 0 m' (nI s) (nI n) (nI 6) = some (Sum.inr t) ∧ _
    unfold f_Mo_lay_b33
    rw [if_pos (show (6 : Int32) ≤ nI 6 from nle 6)]
    exact ⟨_, rfl, m', rfl, L'⟩
set_option maxHeartbeats 400000 in
theorem LN_ok {kn : Nat → Nat → Nat} (k13 : ∀ a b, a < n → b < n → kn a b < 13) (sym : ∀ a b, a < n → b < n → kn b a = 12 - kn a b) : NetOk (LN kn n) := by
  refine ⟨fun j hj => ?_, fun i k hi hk => ?_, fun i hi => ?_⟩
  · unfold LN
    by_cases z : j / 6 = j % 6
    · rw [if_pos z]; decide
    · rw [if_neg z]
      by_cases y : j / 6 < n ∧ j % 6 < n
      · rw [if_pos y]; exact Nat.pow_lt_pow_right (by decide) (k13 _ _ y.1 y.2)
      · rw [if_neg y]; decide
  · have d1 : (6 * i + k) / 6 = i := by omega
    have d2 : (6 * i + k) % 6 = k := by omega
    have d3 : (6 * k + i) / 6 = k := by omega
    have d4 : (6 * k + i) % 6 = i := by omega
    unfold LN
    rw [d1, d2, d3, d4]
    by_cases z : i = k
    · rw [if_pos z, if_pos z.symm]; exact (cw_one 6 (by decide)).symm
    · rw [if_neg z, if_neg (fun e => z e.symm)]
      by_cases y : i < n ∧ k < n
      · rw [if_pos y, if_pos ⟨y.2, y.1⟩, cw_one _ (k13 _ _ y.1 y.2), sym i k y.1 y.2]
      · rw [if_neg y, if_neg (fun u => y ⟨u.2, u.1⟩), cw_all]
  · unfold LN
    rw [if_pos (by omega)]
set_option maxHeartbeats 400000 in
theorem q_lay (S : RT h 1 (m.1 1)) (V : NV h 1 (m.1 1)) (Cm : CC m) (v1 v2 : Int32) : AlikeN h m (f_TJ_lay 0 h v1 v2) (f_Mo_lay 0 m v1 v2) := by
  have out : AlikeN h m (some (h, 0)) (some (m, 0)) := ⟨h, m, 0, rfl, rfl, V, fun _ _ => rfl, fun _ _ => rfl, rfl, fun _ _ => rfl, Cm⟩
  unfold f_TJ_lay f_Mo_lay
  simp only [Nat.zero_add, Nat.reduceAdd]
  rw [X_isSide, M_isSide, M_isIn]
  simp only [Option.bind_some]
  by_cases hv : v1 = 0 ∨ v1 = 1
  · obtain ⟨s, hs, rfl⟩ := side_in hv
    rw [if_pos hv, if_neg one0, if_neg one0]
    by_cases a : v2 < 2
    · rw [if_pos a, if_neg (show ¬ (2 ≤ v2 ∧ v2 ≤ 6) from fun z => absurd z.1 (Int32.not_le.mpr a)), if_pos rfl]; exact out
    · rw [if_neg a]
      by_cases b : 6 < v2
      · rw [if_pos b, if_neg (show ¬ (2 ≤ v2 ∧ v2 ≤ 6) from fun z => absurd z.2 (Int32.not_le.mpr b)), if_pos rfl]; exact out
      · rw [if_neg b, if_pos (show 2 ≤ v2 ∧ v2 ≤ 6 from ⟨Int32.not_lt.mp a, Int32.not_lt.mp b⟩), if_neg one0, X_rowsOf hs rfl, if_pos (many_ix hs rfl).1, (many_ix hs rfl).2]
        simp only [Option.bind_some]
        have R := S.2.1
        rw [(S.1.rv hs).2.1, (R s hs).1]
        by_cases c : v2 ≤ nI (nS (m.1 1) s)
        · rw [if_pos c, if_pos c]
          obtain ⟨n, hn31, rfl⟩ := nI_of (x := v2) (fun y => a (Int32.lt_trans y (by decide)))
          have hn : n ≤ 6 := by
            rcases Nat.lt_or_ge 6 n with y | y
            · exact absurd (nI_lt y hn31) b
            · exact y
          have h40 := (R s hs).2.1
          have hns : n ≤ nS (m.1 1) s := by
            rcases Nat.lt_or_ge (nS (m.1 1) s) n with y | y
            · exact absurd c (nI_ge y hn31)
            · exact y
          obtain ⟨h1, e1, z1, z2, z3⟩ := X_loosen h
          have V1 : SV h1 1 (m.1 1) := S.1.cgt (fun x y1 y2 => z3 x (by omega) (by omega))
          obtain ⟨h2, e2, t1, t2, t3⟩ := X_ly47 (h0 := h1) V1 R hs hn hns (h := h1) ⟨fun j hj => ⟨fun d => absurd d (by unfold dnP; omega), fun _ => z1 j hj⟩, z2, fun _ _ _ => rfl⟩
          obtain ⟨m2, e3, L⟩ := M_ly33 (m0 := m) rfl R hs hn hns
          have ok := LN_ok (n := n) (kn := knS (m.1 1) s) (fun x y _ _ => (knS_eq (m.1 1) s x y).2) (fun x y hx hy => knS_sym R hs (by omega) (by omega))
          obtain ⟨N, n1, n2, -⟩ := V
          refine ⟨h2, m2, 1, bsome e1 e2, e3, ⟨LN (knS (m.1 1) s) n, ok, fun j hj => ⟨?_, t1 j hj⟩, Or.inl t2⟩, fun x hx => by rw [t3 x (by omega) (by omega), z3 x (by omega) (by omega)], L.2.1, L.2.2 2 (by decide), fun j _ => by rw [L.2.2 0 (by decide)], ?_⟩
          · by_cases y : dnM 6 0 j
            · exact (L.1 j hj).1 y
            · rw [(L.1 j hj).2 y, (n2 j hj).1]
              have dg : j / 6 = j % 6 := by unfold dnM at y; omega
              have e := n1.2.2 (j / 6) (by omega)
              rw [show 6 * (j / 6) + j / 6 = j by omega] at e
              rw [e]; unfold LN; rw [if_pos dg]
          · unfold CC TBl at *
            rw [L.2.2 0 (by decide), L.2.2 9 (by decide)]; exact Cm
        · rw [if_neg c, if_neg c]; exact out
  · rw [if_neg hv, if_pos rfl, if_pos rfl]; exact out
end LM4
