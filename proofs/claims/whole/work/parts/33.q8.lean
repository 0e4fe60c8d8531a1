set_option maxHeartbeats 400000 in
theorem nS_lt (w : Nat → Int32) (s : Nat) : nS w s < 2 ^ 31 := Int32.toNatClampNeg_lt _
set_option maxHeartbeats 400000 in
theorem lgB_enc {w : Nat → Int32} {s r : Nat} {pl : Int32} : encO (lgB w s r pl) = -1 ↔ lgB w s r pl = none := by
  constructor
  · intro e
    cases hb : lgB w s r pl with
    | none => rfl
    | some j =>
      rw [hb] at e
      have h1 := (lgI_some hb).1
      have h2 := nS_lt w (1 - s)
      exact absurd e (nI_m1 (by omega))
  · intro e; rw [e]; rfl
def clst (w : Nat → Int32) (s r : Nat) (k : Nat) (x : Int32) : Int32 := if lgB w s r (plc w s r k) = none then x else x + (tmO (plc w s r (k + 1)) - tmO (plc w s r k))
set_option maxHeartbeats 400000 in
theorem X_lcv {h : HP} {w : Nat → Int32} {s r N : Nat} (P : PW h N (pcF w s r)) : f_TJ_longCovered 0 h = some (fI (clst w s r) N 0) := by
  have hn := P.1
  unfold f_TJ_longCovered f_TJ_longCovered_l4
  refine loop_for N (clst w s r) 0 _ (fun i x hi => ?_) ?_
  · unfold f_TJ_longCovered_b4
    simp only [Nat.zero_add, P.2.1, if_neg (nI_ge hi (show N < 2 ^ 31 by omega)), X_pcell P hi (show 2 < 5 by omega) (v := 2) rfl, X_pcell P hi (show 1 < 5 by omega) (v := 1) rfl, X_pcell P hi (show 0 < 5 by omega) (v := 0) rfl, Option.bind_some, nI_1, clst, show pcF w s r i 2 = encO (lgB w s r (plc w s r i)) from rfl, lgB_enc]
    split <;> rfl
  · unfold f_TJ_longCovered_b4
    simp only [Nat.zero_add, P.2.1, if_pos (nle _)]
    rfl
def qN (w : Nat → Int32) (s r : Nat) (k : Nat) : Bool := decide (lgB w s r (plc w s r k) = none)
set_option maxHeartbeats 400000 in
theorem M_lov {m : HP} {w : Nat → Int32} {s r N : Nat} (hN : N ≤ 81) (C : CVM m w s r N) : f_Mo_leftOver_l11 0 m (0, 0) = some (m, nI (cN (qN w s r) N)) := by
  rw [← cnst_cN]
  unfold f_Mo_leftOver_l11
  refine loop_for N (cnst (qN w s r)) 0 _ (fun i x hi => ?_) ?_
  · unfold f_Mo_leftOver_b11
    simp only [Nat.zero_add, C.1, if_neg (nI_ge hi (show N < 2 ^ 31 by omega)), if_pos (inb_nI (show i < 200 by omega) (show 200 < 2 ^ 31 by decide)), ix_nI (show i < 2 ^ 31 by omega), (C.2 i hi).2.2, lgB_enc, nI_1, Int32.add_zero, cnst, qN, decide_eq_true_eq]
    split <;> rfl
  · unfold f_Mo_leftOver_b11
    simp only [C.1, if_pos (nle _)]
    rfl
set_option maxHeartbeats 400000 in
theorem M_lcv {m : HP} {w : Nat → Int32} {s r N : Nat} (hN : N ≤ 81) (C : CVM m w s r N) : f_Mo_coveredLong_l11 0 m (0, 0) = some (m, fI (clst w s r) N 0) := by
  unfold f_Mo_coveredLong_l11
  refine loop_for N (clst w s r) 0 _ (fun i x hi => ?_) ?_
  · unfold f_Mo_coveredLong_b11
    simp only [Nat.zero_add, C.1, if_neg (nI_ge hi (show N < 2 ^ 31 by omega)), if_pos (inb_nI (show i < 200 by omega) (show 200 < 2 ^ 31 by decide)), ix_nI (show i < 2 ^ 31 by omega), (C.2 i hi).2.2, (C.2 i hi).2.1, (C.2 i hi).1, lgB_enc, M_time, Option.bind_some, nI_1, Int32.add_zero, clst]
    split <;> rfl
  · unfold f_Mo_coveredLong_b11
    simp only [C.1, if_pos (nle _)]
    rfl
set_option maxHeartbeats 400000 in
theorem q_piece {h m : HP} {w : Nat → Int32} (Q : RQ h m w) (v1 v2 v3 v4 : Int32) : Alike2 h m (f_TJ_piece 0 h v1 v2 v3 v4) (f_Mo_piece 0 m v1 v2 v3 v4) := by
  obtain ⟨hw, V, R, -, hW⟩ := Q
  unfold f_TJ_piece f_Mo_piece
  rcases isRow_both hw V R v1 v2 with ⟨a, b⟩ | ⟨a, b, s, r, hs, hr, rfl, rfl⟩
  · rw [a, b]; exact ⟨h, m, _, rfl, rfl, keepX.rf, keepM.rf⟩
  · rw [a, b]
    simp only [Option.bind_some, if_neg one0, Nat.zero_add]
    obtain ⟨N, hN, h1, h2⟩ := cover_N R (r := r) hs
    obtain ⟨x1, x2, e1, e2, -, P, F, -⟩ := X_cover V R hs hr hN h1 h2
    obtain ⟨m1, e3, C, G⟩ := M_covers hw R hs hr hN h1 h2
    rw [e1, e3]
    simp only [Option.bind_some]
    rw [e2]
    simp only [Option.bind_some]
    have kx := F.kX (by decide)
    have km := G.kM (by decide) (by decide) (by decide) (by decide) (by decide)
    rw [M_isIn, C.1]
    simp only [Option.bind_some]
    rcases X_pans P v3 v4 (c := 3) (by omega) (vc := 3) rfl with ⟨k, j, hk, hj, rfl, rfl, e⟩ | ⟨hn, e⟩
    · rw [e]
      have hk2 : 0 ≤ nI k ∧ nI k ≤ nI N - 1 := ⟨nI_pos' (by omega), by
        rw [show nI N - 1 = nI (N - 1) from pk_sub (b := 1) (by omega)]; exact nI_le (by omega) (by omega)⟩
      have hb : inb (nI k) 200 := inb_nI (by omega) (by decide)
      simp only [Option.bind_some, if_pos hk2, if_neg one0, if_pos hb, ix_nI (show k < 2 ^ 31 by omega), (C.2 k hk).1, (C.2 k hk).2.1, (C.2 k hk).2.2, M_time]
      rcases (show j = 0 ∨ j = 1 ∨ j = 2 by omega) with rfl | rfl | rfl
      · exact ⟨x2, m1, _, rfl, rfl, kx, km⟩
      · exact ⟨x2, m1, _, rfl, rfl, kx, km⟩
      · exact ⟨x2, m1, _, rfl, rfl, kx, km⟩
    · rw [e]
      refine ⟨x2, m1, -10000000, rfl, ?_, kx, km⟩
      by_cases hv : 0 ≤ v3 ∧ v3 ≤ nI N - 1
      · have hv3 : v3 < nI N := by
          rcases Nat.eq_zero_or_pos N with h0 | h0
          · subst h0
            have : (nI 0 - 1 : Int32) = -1 := by decide
            rw [this] at hv
            exact absurd (Int32.le_trans hv.1 hv.2) (by decide)
          · rw [show nI N - 1 = nI (N - 1) from pk_sub (b := 1) (by omega)] at hv
            exact Int32.lt_of_le_of_lt hv.2 (nI_lt (by omega) (by omega))
        have h4 : ¬ (0 ≤ v4 ∧ v4 < nI 3) := fun z => hn ⟨hv.1, hv3, z.1, z.2⟩
        rw [show nI 3 = 3 from rfl] at h4
        have n0 : ¬ v4 = 0 := by rintro rfl; exact h4 (by decide)
        have n1 : ¬ v4 = 1 := by rintro rfl; exact h4 (by decide)
        have n2 : ¬ v4 = 2 := by rintro rfl; exact h4 (by decide)
        simp only [if_pos hv, if_neg one0, if_neg n0, if_neg n1, if_neg n2]
      · simp only [if_neg hv, if_true]
set_option maxHeartbeats 400000 in
theorem q_row {h m : HP} {w : Nat → Int32} (Q : RQ h m w) (v1 v2 v3 : Int32) : Alike2 h m (f_TJ_row 0 h v1 v2 v3) (f_Mo_row 0 m v1 v2 v3) := by
  obtain ⟨hw, V, R, -, hW⟩ := Q
  unfold f_TJ_row f_Mo_row
  rcases isRow_both hw V R v1 v2 with ⟨a, b⟩ | ⟨a, b, s, r, hs, hr, rfl, rfl⟩
  · rw [a, b]; exact ⟨h, m, _, rfl, rfl, keepX.rf, keepM.rf⟩
  · rw [a, b]
    have V1 := V.rv hs
    have hn := V1.1
    have hn1 := (R (1 - s) (by omega)).2.1
    have hb : inb (nI r) 40 := inb_nI (by omega) (by decide)
    have hr40 : r < 40 := by omega
    simp only [Option.bind_some, if_neg one0, Nat.zero_add, X_rowsOf (b := 1) hs rfl, if_pos hb, ix_nI (show r < 2 ^ 31 by omega)]
    obtain ⟨r0, r1, r2, r3, r4⟩ := V1.2.2 r hr
    have same : ∀ z : Int32, Alike2 h m (some (h, z)) (some (m, z)) := fun z => ⟨h, m, z, rfl, rfl, keepX.rf, keepM.rf⟩
    by_cases c0 : v3 = 0
    · subst c0; simp only [if_true, r0, M_of hs hr40 (k := 0) (v3 := 0) (by omega) rfl rfl rfl, hw, Option.bind_some]; exact same _
    by_cases c1 : v3 = 1
    · subst c1; simp only [if_neg c0, if_true, r1, M_of hs hr40 (k := 1) (v3 := 1) (by omega) rfl rfl rfl, hw, Option.bind_some]; exact same _
    by_cases c2 : v3 = 2
    · subst c2; simp only [if_neg c0, if_neg c1, if_true, r2, M_of hs hr40 (k := 2) (v3 := 2) (by omega) rfl rfl rfl, hw, Option.bind_some]; exact same _
    by_cases c3 : v3 = 3
    · subst c3; simp only [if_neg c0, if_neg c1, if_neg c2, if_true, r3, M_of hs hr40 (k := 3) (v3 := 3) (by omega) rfl rfl rfl, hw, Option.bind_some]; exact same _
    by_cases c4 : v3 = 4
    · subst c4; simp only [if_neg c0, if_neg c1, if_neg c2, if_neg c3, if_true, r4, M_of hs hr40 (k := 4) (v3 := 4) (by omega) rfl rfl rfl, hw, Option.bind_some]; exact same _
    by_cases c5 : v3 = 5
    · subst c5; simp only [if_neg c0, if_neg c1, if_neg c2, if_neg c3, if_neg c4, if_true, X_long V1 hr, M_long hs hr40 rfl rfl, hw, Option.bind_some]; exact same _
    simp only [if_neg c0, if_neg c1, if_neg c2, if_neg c3, if_neg c4, if_neg c5]
    unfold f_TJ_ofMates
    by_cases hlo : v3 < 6
    · have n6 : ¬ v3 = 6 := by rintro rfl; exact absurd hlo (by decide)
      have n7 : ¬ v3 = 7 := by rintro rfl; exact absurd hlo (by decide)
      have n8 : ¬ v3 = 8 := by rintro rfl; exact absurd hlo (by decide)
      have n9 : ¬ v3 = 9 := by rintro rfl; exact absurd hlo (by decide)
      have n10 : ¬ v3 = 10 := by rintro rfl; exact absurd hlo (by decide)
      simp only [if_pos hlo, if_neg n6, if_neg n7, if_neg n8, if_neg n9, if_neg n10, Option.bind_some]; exact same _
    by_cases hhi : v3 ≤ 10
    · obtain ⟨N, hN, h1, h2⟩ := cover_N R (r := r) hs
      obtain ⟨x1, x2, e1, e2, M1, P, F, F1⟩ := X_cover V R hs hr hN h1 h2
      obtain ⟨m1, e3, C, G⟩ := M_covers hw R hs hr hN h1 h2
      have kx := F.kX (by decide)
      have kx1 := F1.kX (by decide)
      have km := G.kM (by decide) (by decide) (by decide) (by decide) (by decide)
      simp only [if_neg hlo, if_pos hhi, Nat.zero_add, e1, Option.bind_some]
      by_cases n6 : v3 = 6
      · subst n6
        simp only [if_true, M_partners hw R hs hr, M1.2.2.1, Option.bind_some]
        exact ⟨x1, m, _, rfl, rfl, kx1, keepM.rf⟩
      by_cases n7 : v3 = 7
      · subst n7
        simp only [if_neg n6, if_true, M_depth hw R hs hr, X_depth M1 hn1, depth_eq hW hs, Option.bind_some]
        exact ⟨x1, m, _, rfl, rfl, kx1, keepM.rf⟩
      simp only [if_neg n6, if_neg n7, e2, Option.bind_some]
      by_cases n8 : v3 = 8
      · subst n8
        simp only [if_true, e3, P.2.1, C.1, Option.bind_some]
        exact ⟨x2, m1, _, rfl, rfl, kx, km⟩
      by_cases n9 : v3 = 9
      · subst n9
        unfold f_Mo_leftOver
        simp only [if_neg n8, if_true, e3, X_loc P, M_lov hN C, Option.bind_some]
        exact ⟨x2, m1, _, rfl, rfl, kx, km⟩
      have n10 : v3 = 10 := by
        obtain ⟨j, hj, rfl⟩ := nI_of2 (x := v3) (M := 10) (n := 10) (by decide) (by grind) hhi
        have : ¬ j = 6 := fun e => n6 (by rw [e]; rfl)
        have : ¬ j = 7 := fun e => n7 (by rw [e]; rfl)
        have : ¬ j = 8 := fun e => n8 (by rw [e]; rfl)
        have : ¬ j = 9 := fun e => n9 (by rw [e]; rfl)
        have : ¬ j < 6 := fun e => hlo (nI_lt (b := 6) e (by decide))
        rw [show j = 10 by omega]; rfl
      subst n10
      unfold f_Mo_coveredLong
      simp only [if_neg n8, if_neg n9, if_true, e3, X_lcv P, M_lcv hN C, Option.bind_some]
      exact ⟨x2, m1, _, rfl, rfl, kx, km⟩
    · have n6 : ¬ v3 = 6 := by rintro rfl; exact absurd (show (6 : Int32) ≤ 10 by decide) hhi
      have n7 : ¬ v3 = 7 := by rintro rfl; exact absurd (show (7 : Int32) ≤ 10 by decide) hhi
      have n8 : ¬ v3 = 8 := by rintro rfl; exact absurd (show (8 : Int32) ≤ 10 by decide) hhi
      have n9 : ¬ v3 = 9 := by rintro rfl; exact absurd (show (9 : Int32) ≤ 10 by decide) hhi
      have n10 : ¬ v3 = 10 := by rintro rfl; exact absurd (show (10 : Int32) ≤ 10 by decide) hhi
      simp only [if_neg hlo, if_neg hhi, if_neg n6, if_neg n7, if_neg n8, if_neg n9, if_neg n10, Option.bind_some]; exact same _
