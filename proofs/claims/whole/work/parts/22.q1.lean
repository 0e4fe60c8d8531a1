/-! questions whose loops go side by side: both sides come to one fold -/
set_option maxHeartbeats 400000 in
theorem loop_for {A T : Type} {body : A × Int32 → Option ((A × Int32) ⊕ T)} (n : Nat) (st : Nat → A → A) (a : A) (t : T) (hs : ∀ i x, i < n → body (x, nI i) = some (.inl (st i x, nI (i + 1)))) (he : body (fI st n a, nI n) = some (.inr t)) : loop body (a, 0) = some t :=
  loop_up (fun i => (fI st i a, nI i)) n (fun i hi => hs i _ hi) he
set_option maxHeartbeats 400000 in
theorem ngt {i n : Nat} (h : i < n) (hn : n ≤ 40) : ¬ nI n ≤ nI i := nI_ge h (by omega)
set_option maxHeartbeats 400000 in
theorem nle (n : Nat) : nI n ≤ nI n := Int32.le_refl _
def there (w : Nat → Int32) (s r : Nat) (pl : Int32) : Bool := decide (sp w s r ≤ pl) && decide (pl < ep w s r)
def keyIs (w : Nat → Int32) (s r : Nat) (k : Int32) : Bool := decide (k = -1) || decide (fld w s r 1 = k)
def lvst (w : Nat → Int32) (s : Nat) (k pl : Int32) (i : Nat) (x : Int32) : Int32 := if keyIs w s i k && there w s i pl then x + 1 else x
set_option maxHeartbeats 400000 in
theorem M_isLive {h : HP} {s r : Nat} (hs : s < 2) (hr : r < 40) {v1 : Int32} (e1 : v1 = nI s) (pl : Int32) : f_Mo_isLive 0 h v1 (nI r) pl = some (if there (h.1 1) s r pl then 1 else 0) := by
  unfold f_Mo_isLive there
  rw [M_start hs hr e1 rfl, M_end hs hr e1 rfl]
  simp only [Option.bind_some, Bool.and_eq_true, decide_eq_true_eq]
  grind
set_option maxHeartbeats 400000 in
theorem X_isThere {h : HP} {cc : Nat} {w : Nat → Int32} {s n r : Nat} (V : RV h cc w s n) (hr : r < n) (pl : Int32) : f_Ro_isThere cc h (nI r) pl = some (if there w s r pl then 1 else 0) := by
  unfold f_Ro_isThere there
  rw [X_start V hr, X_end V hr]
  simp only [Option.bind_some, Bool.and_eq_true, decide_eq_true_eq]
  grind
set_option maxHeartbeats 400000 in
theorem M_liveAt {m : HP} {w : Nat → Int32} (hw : m.1 1 = w) (R : RowsOk w) {s : Nat} (hs : s < 2) {v1 : Int32} (e1 : v1 = nI s) (k pl : Int32) : f_Mo_liveAt 0 m v1 k pl = some (fI (lvst w s k pl) (nS w s) 0) := by
  have hn := (R s hs).2.1
  unfold f_Mo_liveAt f_Mo_liveAt_l6
  refine loop_for (nS w s) (lvst w s k pl) 0 _ (fun i x hi => ?_) ?_
  · unfold f_Mo_liveAt_b6 f_Mo_liveAt_j38
    simp only []
    rw [if_pos (many_ix hs e1).1, (many_ix hs e1).2, hw, (R s hs).1, if_neg (ngt hi hn), M_of hs (show i < 40 by omega) (k := 1) (v3 := 1) (by omega) e1 rfl rfl, M_isLive hs (by omega) e1, hw]
    simp only [Option.bind_some, lvst, keyIs, Bool.and_eq_true, Bool.or_eq_true, decide_eq_true_eq, nI_1, Int32.add_zero]
    grind
  · unfold f_Mo_liveAt_b6
    simp only []
    rw [if_pos (many_ix hs e1).1, (many_ix hs e1).2, hw, (R s hs).1, if_pos (nle _)]
    rfl
set_option maxHeartbeats 400000 in
theorem X_countThere {h : HP} {cc : Nat} {w : Nat → Int32} {s n : Nat} (V : RV h cc w s n) (k pl : Int32) : f_Ro_countThere cc h k pl = some (fI (lvst w s k pl) n 0) := by
  have hn := V.1
  unfold f_Ro_countThere f_Ro_countThere_l5
  refine loop_for n (lvst w s k pl) 0 _ (fun i x hi => ?_) ?_
  · unfold f_Ro_countThere_b5 f_Ro_countThere_j30
    simp only []
    rw [V.2.1, if_neg (ngt hi hn), if_pos (inb_nI (show i < 40 by omega) (by omega)), ix_nI (by omega), (V.2.2 i hi).2.1, X_isThere V hi]
    simp only [Option.bind_some, lvst, keyIs, Bool.and_eq_true, Bool.or_eq_true, decide_eq_true_eq, nI_1]
    grind
  · unfold f_Ro_countThere_b5
    simp only []
    rw [V.2.1, if_pos (nle _)]
    rfl
set_option maxHeartbeats 400000 in
theorem two {α : Type} {a b : Option α} (h : a = b) (h2 : b ≠ none) : ∃ r, a = some r ∧ b = some r := by
  subst h
  cases a with
  | none => exact absurd rfl h2
  | some r => exact ⟨r, rfl, rfl⟩
/-- the relation that a question needs -/
def RQ (h m : HP) (w : Nat → Int32) : Prop := m.1 1 = w ∧ SV h 1 w ∧ RowsOk w ∧ (w 0 = 0 ∨ w 0 = 1) ∧ w 1 &&& 2044 = w 1
set_option maxHeartbeats 400000 in
theorem q_kind {h m : HP} {w : Nat → Int32} (Q : RQ h m w) (v1 v2 v3 v4 : Int32) : ∃ r, f_TJ_kind 0 h v1 v2 v3 v4 = some r ∧ f_Mo_kind 0 m v1 v2 v3 v4 = some r := by
  obtain ⟨hw, V, R, -⟩ := Q
  unfold f_TJ_kind f_Mo_kind
  rcases isRow_both hw V R v1 v2 with ⟨a, b⟩ | ⟨a, b, s, r, hs, hr, rfl, rfl⟩
  · rw [a, b]; exact ⟨_, rfl, rfl⟩
  · rw [a, b]
    simp only [Option.bind_some]
    rw [if_neg (by decide), if_neg (by decide)]
    rcases isRow_both hw V R v3 v4 with ⟨a, b⟩ | ⟨a, b, s2, r2, hs2, hr2, rfl, rfl⟩
    · rw [a, b]; exact ⟨_, rfl, rfl⟩
    · have h1 := (R s hs).2.1
      have h2 := (R s2 hs2).2.1
      rw [a, b]
      simp only [Option.bind_some]
      rw [if_neg (by decide), if_neg (by decide), X_kindOf (b := 0 + 1) V hs hr hs2 hr2 rfl rfl, M_kindB hs (by omega) hs2 (by omega) rfl rfl rfl rfl, hw]
      exact ⟨_, rfl, rfl⟩
set_option maxHeartbeats 400000 in
theorem q_live {h m : HP} {w : Nat → Int32} (Q : RQ h m w) (v1 v2 v3 : Int32) : ∃ r, f_TJ_live 0 h v1 v2 v3 = some r ∧ f_Mo_live 0 m v1 v2 v3 = some r := by
  obtain ⟨hw, V, R, -⟩ := Q
  unfold f_TJ_live f_TJ_live_j24 f_Mo_live f_Mo_live_j19
  rw [X_isSide, M_isSide, X_isKey, M_isKey, M_isIn]
  simp only [Option.bind_some]
  by_cases hv : v1 = 0 ∨ v1 = 1
  · obtain ⟨s, hs, rfl⟩ := side_in hv
    rw [X_rowsOf (b := 0 + 1) hs rfl, M_liveAt hw R hs rfl]
    simp only [Option.bind_some]
    rw [X_countThere (V.rv hs)]
    simp only [Option.bind_some]
    clear V R hw
    generalize fI (lvst w s v2 (2 * v3)) (nS w s) 0 = z
    rw [if_pos hv]
    clear hv
    refine two ?_ ?_ <;> grind
  · rw [if_neg hv]; exact ⟨_, rfl, rfl⟩
set_option maxHeartbeats 400000 in
theorem sp_int {w : Nat → Int32} (R : RowsOk w) {s r : Nat} (hs : s < 2) (hr : r < nS w s) : (sp w s r).toInt = 2 * (fld w s r 2).toInt := by
  have hb := (R s hs).2.2 r hr
  have h1 := hb.2.2
  unfold sp
  rw [Int32.toInt_mul]
  simp [Int.bmod]; omega
set_option maxHeartbeats 400000 in
theorem sp_tm {w : Nat → Int32} (R : RowsOk w) {s r : Nat} (hs : s < 2) (hr : r < nS w s) : (sp w s r) >>> (1 &&& 31) = fld w s r 2 := by
  apply Int32.toInt_inj.mp
  rw [pk_shr (sp w s r) (1 &&& 31) 1 (by decide), sp_int R hs hr, Int.shiftRight_eq_div_pow]
  omega
def cst (k v1 c f : Int32) (x : Int32 × Int32) : Int32 × Int32 := if k = v1 then (if x.1 < c then (c, f) else if c = x.1 ∧ f < x.2 then (c, f) else x) else x
def cntK (w : Nat → Int32) (k pl : Int32) : Int32 := fI (lvst w 0 k pl) (nS w 0) 0 + fI (lvst w 1 k pl) (nS w 1) 0
def crst (w : Nat → Int32) (v1 : Int32) (s i : Nat) (x : Int32 × Int32) : Int32 × Int32 := cst (fld w s i 1) v1 (cntK w v1 (sp w s i)) (fld w s i 2) x
set_option maxHeartbeats 400000 in
theorem cstX {T : Type} (k v1 c f n : Int32) (x : Int32 × Int32) : (if k = v1 then (if x.1 < c then some (Sum.inl (c, f, n)) else if c = x.1 then (if x.2 ≤ f then some (Sum.inl (x.1, x.2, n)) else some (Sum.inl (c, f, n))) else some (Sum.inl (x.1, x.2, n))) else some (Sum.inl (x.1, x.2, n)) : Option ((Int32 × Int32 × Int32) ⊕ T)) = some (Sum.inl ((cst k v1 c f x).1, (cst k v1 c f x).2, n)) := by
  unfold cst
  by_cases h1 : k = v1
  · rw [if_pos h1, if_pos h1]
    by_cases h2 : x.1 < c
    · rw [if_pos h2, if_pos h2]
    · rw [if_neg h2, if_neg h2]
      by_cases h3 : c = x.1
      · rw [if_pos h3]
        by_cases h4 : x.2 ≤ f
        · rw [if_pos h4, if_neg (fun z => absurd h4 (Int32.not_le.mpr z.2))]
        · rw [if_neg h4, if_pos ⟨h3, Int32.not_le.mp h4⟩]
      · rw [if_neg h3, if_neg (fun z => h3 z.1)]
  · rw [if_neg h1, if_neg h1]
set_option maxHeartbeats 400000 in
theorem cstM {T : Type} (k v1 c f n : Int32) (x : Int32 × Int32) : (if k = v1 then (if c < x.1 then some (Sum.inl (x.1, x.2, n)) else if c = x.1 then (if f < x.2 then some (Sum.inl (c, f, n)) else some (Sum.inl (x.1, x.2, n))) else some (Sum.inl (c, f, n))) else some (Sum.inl (x.1, x.2, n)) : Option ((Int32 × Int32 × Int32) ⊕ T)) = some (Sum.inl ((cst k v1 c f x).1, (cst k v1 c f x).2, n)) := by
  unfold cst
  by_cases h1 : k = v1
  · rw [if_pos h1, if_pos h1]
    by_cases h2 : c < x.1
    · rw [if_pos h2, if_neg (show ¬ x.1 < c by grind), if_neg (show ¬ (c = x.1 ∧ f < x.2) by grind)]
    · rw [if_neg h2]
      by_cases h3 : c = x.1
      · rw [if_pos h3, if_neg (show ¬ x.1 < c by grind)]
        by_cases h4 : f < x.2
        · rw [if_pos h4, if_pos ⟨h3, h4⟩]
        · rw [if_neg h4, if_neg (fun z => h4 z.2)]
      · rw [if_neg h3, if_pos (show x.1 < c by grind)]
  · rw [if_neg h1, if_neg h1]
set_option maxHeartbeats 400000 in
theorem X_cntK {h : HP} {w : Nat → Int32} (V : SV h 1 w) (k pl : Int32) : f_TJ_countThere 0 h k pl = some (cntK w k pl) := by
  unfold f_TJ_countThere
  rw [X_countThere (cc := 0 + 1 + 1) V.2.2.1, X_countThere (cc := 0 + 1 + 7) V.2.2.2]; rfl
set_option maxHeartbeats 400000 in
theorem X_crowd1 {h : HP} {w : Nat → Int32} (V : SV h 1 w) (v1 v2 : Int32) {s : Nat} (hs : s < 2) (x : Int32 × Int32) : f_TJ_crowd_l47 0 h v1 v2 (nI s) (rc 1 s) (x.1, x.2, 0) = some (.inl ((fI (crst w v1 s) (nS w s) x).1, (fI (crst w v1 s) (nS w s) x).2, nI (s + 1))) := by
  have V1 := V.rv hs
  have hn := V1.1
  unfold f_TJ_crowd_l47
  refine loop_up (fun i => ((fI (crst w v1 s) i x).1, (fI (crst w v1 s) i x).2, nI i)) (nS w s) (fun i hi => ?_) ?_
  · unfold f_TJ_crowd_b47
    have hi' : inb (nI i) 40 := inb_nI (by omega) (by omega)
    simp only [V1.2.1, if_neg (ngt hi hn), if_pos hi', ix_nI (show i < 2 ^ 31 by omega), (V1.2.2 i hi).2.1, (V1.2.2 i hi).2.2.1, X_start V1 hi, X_cntK V, Option.bind_some, nI_1]
    exact cstX _ _ _ _ _ _
  · unfold f_TJ_crowd_b47
    simp only [V1.2.1, if_pos (nle _), nI_1]
    rfl
set_option maxHeartbeats 400000 in
theorem M_crowd1 {m : HP} {w : Nat → Int32} (hw : m.1 1 = w) (R : RowsOk w) (v1 v2 : Int32) {s : Nat} (hs : s < 2) (x : Int32 × Int32) : f_Mo_crowd_l36 0 m v1 v2 (nI s) (x.1, x.2, 0) = some (.inl ((fI (crst w v1 s) (nS w s) x).1, (fI (crst w v1 s) (nS w s) x).2, nI (s + 1))) := by
  have hn := (R s hs).2.1
  unfold f_Mo_crowd_l36
  refine loop_up (fun i => ((fI (crst w v1 s) i x).1, (fI (crst w v1 s) i x).2, nI i)) (nS w s) (fun i hi => ?_) ?_
  · unfold f_Mo_crowd_b36 f_Mo_crowd_j120
    simp only [if_pos (many_ix hs rfl).1, (many_ix hs rfl).2, Nat.zero_add, hw, (R s hs).1, if_neg (ngt hi hn), M_of hs (show i < 40 by omega) (k := 1) (v3 := 1) (by omega) rfl rfl rfl, M_start hs (show i < 40 by omega) rfl rfl, M_liveAt hw R (s := 0) (v1 := 0) (by omega) rfl, M_liveAt hw R (s := 1) (v1 := 1) (by omega) rfl, Option.bind_some, M_time, sp_tm R hs hi, nI_1]
    exact cstM _ _ _ _ _ _
  · unfold f_Mo_crowd_b36
    simp only [if_pos (many_ix hs rfl).1, (many_ix hs rfl).2, Nat.zero_add, hw, (R s hs).1, if_pos (nle _), nI_1]
    rfl
def crF (w : Nat → Int32) (v1 : Int32) (i : Nat) : Int32 × Int32 := if i = 0 then (0, 0) else if i = 1 then fI (crst w v1 0) (nS w 0) (0, 0) else fI (crst w v1 1) (nS w 1) (fI (crst w v1 0) (nS w 0) (0, 0))
set_option maxHeartbeats 400000 in
theorem X_crowd2 {h : HP} {w : Nat → Int32} (V : SV h 1 w) (v1 v2 : Int32) : f_TJ_crowd_l27 0 h v1 v2 (0, 0, 0) = some (if v2 = 0 then (crF w v1 2).1 else (crF w v1 2).2) := by
  unfold f_TJ_crowd_l27
  refine loop_up (fun i => ((crF w v1 i).1, (crF w v1 i).2, nI i)) 2 (fun i hi => ?_) ?_
  · unfold f_TJ_crowd_b27
    simp only [if_neg (show ¬ (2 : Int32) ≤ nI i from nI_ge (b := 2) hi (by decide)), X_rowsOf (b := 0 + 1) hi rfl, Option.bind_some]
    rw [X_crowd1 V v1 v2 hi]
    rcases (show i = 0 ∨ i = 1 by omega) with rfl | rfl <;> rfl
  · unfold f_TJ_crowd_b27
    simp only [if_pos (show (2 : Int32) ≤ nI 2 from nle 2)]
    split <;> rfl
set_option maxHeartbeats 400000 in
theorem M_crowd2 {m : HP} {w : Nat → Int32} (hw : m.1 1 = w) (R : RowsOk w) (v1 v2 : Int32) : f_Mo_crowd_l27 0 m v1 v2 (0, 0, 0) = some (if v2 = 0 then (crF w v1 2).1 else (crF w v1 2).2) := by
  unfold f_Mo_crowd_l27
  refine loop_up (fun i => ((crF w v1 i).1, (crF w v1 i).2, nI i)) 2 (fun i hi => ?_) ?_
  · unfold f_Mo_crowd_b27
    simp only [if_neg (show ¬ (2 : Int32) ≤ nI i from nI_ge (b := 2) hi (by decide))]
    rw [M_crowd1 hw R v1 v2 hi]
    rcases (show i = 0 ∨ i = 1 by omega) with rfl | rfl <;> rfl
  · unfold f_Mo_crowd_b27
    simp only [if_pos (show (2 : Int32) ≤ nI 2 from nle 2)]
    split <;> rfl
set_option maxHeartbeats 400000 in
theorem q_crowd {h m : HP} {w : Nat → Int32} (Q : RQ h m w) (v1 v2 : Int32) : ∃ r, f_TJ_crowd 0 h v1 v2 = some r ∧ f_Mo_crowd 0 m v1 v2 = some r := by
  obtain ⟨hw, V, R, -⟩ := Q
  unfold f_TJ_crowd f_Mo_crowd
  rw [X_isKey, M_isKey, M_isIn, X_crowd2 V, M_crowd2 hw R]
  simp only [Option.bind_some]
  generalize (if v2 = 0 then (crF w v1 2).1 else (crF w v1 2).2) = z
  clear hw V R
  refine two ?_ ?_ <;> grind
