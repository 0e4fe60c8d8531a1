/-! left: the pieces by nobody of all rows of a side -/
set_option maxHeartbeats 400000 in
theorem cN_sur {p : Nat → Bool} {c : Nat} : ∀ {n : Nat}, c < cN p n → ∃ k, k < n ∧ p k = true ∧ cN p k = c
  | 0, h => by simp [cN] at h
  | n + 1, h => by
    by_cases h1 : c < cN p n
    · obtain ⟨k, a, b⟩ := cN_sur h1
      exact ⟨k, by omega, b⟩
    · simp only [cN] at h
      by_cases hp : p n = true
      · rw [if_pos hp] at h
        exact ⟨n, by omega, hp, by omega⟩
      · rw [if_neg hp] at h; omega
def CovN (w : Nat → Int32) (s r N : Nat) : Prop := N ≤ 81 ∧ (∀ k, k < N → plc w s r k < ep w s r) ∧ ep w s r ≤ plc w s r N
noncomputable def cvN (w : Nat → Int32) (s r : Nat) : Nat := @dite _ (∃ N, CovN w s r N) (Classical.propDecidable _) (fun h => Classical.choose h) (fun _ => 0)
set_option maxHeartbeats 400000 in
theorem cvN_ok {w : Nat → Int32} (R : RowsOk w) {s : Nat} (r : Nat) (hs : s < 2) : CovN w s r (cvN w s r) := by
  obtain ⟨N, a, b, c⟩ := cover_N R (r := r) hs
  unfold cvN
  rw [dif_pos ⟨N, a, b, c⟩]
  exact Classical.choose_spec (p := CovN w s r) ⟨N, a, b, c⟩
noncomputable def loN (w : Nat → Int32) (s r : Nat) : Nat := cN (qN w s r) (cvN w s r)
noncomputable def toN (w : Nat → Int32) (s : Nat) : Nat → Nat
  | 0 => 0
  | r + 1 => toN w s r + loN w s r
set_option maxHeartbeats 400000 in
theorem toN_le {w : Nat → Int32} (R : RowsOk w) {s : Nat} (hs : s < 2) : ∀ r, toN w s r ≤ 81 * r
  | 0 => Nat.le_refl _
  | r + 1 => by
    have h1 := toN_le R hs r
    have h2 := cN_le (qN w s r) (cvN w s r)
    have h3 := (cvN_ok R r hs).1
    simp only [toN, loN]; omega
/-- the answer of the piece k of row r -/
def loA (w : Nat → Int32) (s r k : Nat) (v3 : Int32) : Int32 := if v3 = 0 then nI r else if v3 = 1 then tmO (plc w s r k) else if v3 = 2 then tmO (plc w s r (k + 1)) else -10000000
set_option maxHeartbeats 400000 in
theorem X_leftOver {h : HP} {w : Nat → Int32} {s r N k : Nat} (P : PW h N (pcF w s r)) (hk : k < N) (hq : qN w s r k = true) (v3 : Int32) : f_TJ_leftOver 0 h (nI r) (nI (cN (qN w s r) k)) v3 = some (loA w s r k v3) := by
  have hn := P.1
  have lp : ∀ (j : Nat) (v : Int32), j < 5 → v - 1 = nI j → f_TJ_leftOver_l25 0 h (nI (cN (qN w s r) k)) v (0, 0) = some (pcF w s r k j) := by
    intro j v hj ev
    unfold f_TJ_leftOver_l25
    refine loop_up (fun i => (nI (cN (qN w s r) i), nI i)) k (fun i hi => ?_) ?_
    · have hc := cN_le (qN w s r) k
      unfold f_TJ_leftOver_b25
      simp only [Nat.zero_add, P.2.1, if_neg (nI_ge (show i < N by omega) (show N < 2 ^ 31 by omega)), X_pcell P (show i < N by omega) (show 2 < 5 by omega) (v := 2) rfl, Option.bind_some, nI_1, show pcF w s r i 2 = encO (lgB w s r (plc w s r i)) from rfl, lgB_enc, cN]
      by_cases hb : lgB w s r (plc w s r i) = none
      · have hqi : qN w s r i = true := by simp [qN, hb]
        have hlt := cN_lt (p := qN w s r) hi hqi
        have hne : ¬ nI (cN (qN w s r) i) = nI (cN (qN w s r) k) := fun e => by
          have := (nI_eq (by omega) (by omega)).mp e; omega
        simp only [if_pos hb, if_neg hne, hqi, if_true]
      · have hqi : qN w s r i = false := by simp [qN, hb]
        simp only [if_neg hb, hqi, Bool.false_eq_true, if_false, Nat.add_zero]
    · have hb : lgB w s r (plc w s r k) = none := by simpa [qN] using hq
      unfold f_TJ_leftOver_b25
      simp only [Nat.zero_add, P.2.1, if_neg (nI_ge hk (show N < 2 ^ 31 by omega)), X_pcell P hk (show 2 < 5 by omega) (v := 2) rfl, X_pcell P hk hj ev, Option.bind_some, show pcF w s r k 2 = encO (lgB w s r (plc w s r k)) from rfl, lgB_enc, if_pos hb, if_true]
      rfl
  unfold f_TJ_leftOver loA
  by_cases c0 : v3 = 0
  · rw [if_pos c0, if_pos c0]
  · rw [if_neg c0, if_neg c0]
    by_cases c1 : v3 = 1
    · subst c1
      rw [if_pos rfl, if_pos rfl, lp 0 1 (by omega) (by decide)]; rfl
    · rw [if_neg c1, if_neg c1]
      by_cases c2 : v3 = 2
      · subst c2
        rw [if_pos rfl, if_pos rfl, lp 1 2 (by omega) (by decide)]; rfl
      · rw [if_neg c2, if_neg c2]
set_option maxHeartbeats 400000 in
theorem X_rowL {h : HP} {w : Nat → Int32} (V : SV h 1 w) (R : RowsOk w) {s r : Nat} (hs : s < 2) (hr : r < nS w s) : ∃ h' h'', f_Ma_gather 37 h 1 (nI s) (nI r) = some h' ∧ f_Ma_layCover 37 h' 34 = some h'' ∧ PW h'' (cvN w s r) (pcF w s r) ∧ fr [34, 35, 37, 38, 39, 40] h h'' := by
  obtain ⟨a, b, c⟩ := cvN_ok R r hs
  obtain ⟨x1, x2, e1, e2, -, P, F, -⟩ := X_cover V R hs hr a b c
  exact ⟨x1, x2, e1, e2, P, F⟩
set_option maxHeartbeats 400000 in
/-- the class's loop over the rows: behind those ahead of row i, nothing met -/
theorem X_left {h : HP} {w : Nat → Int32} (V : SV h 1 w) (R : RowsOk w) {s : Nat} (hs : s < 2) (v2 v3 : Int32) : (∀ r k, r < nS w s → k < cvN w s r → qN w s r k = true → v2 = nI (toN w s r + cN (qN w s r) k) → ∃ h', f_TJ_left_l29 0 h (nI s) v2 v3 (nI (nS w s)) (h, 0, 0) = some (h', loA w s r k v3) ∧ keepX h h') ∧ ((∀ j, j < toN w s (nS w s) → ¬ v2 = nI j) → ∃ h', f_TJ_left_l29 0 h (nI s) v2 v3 (nI (nS w s)) (h, 0, 0) = some (h', if v2 = -1 then nI (toN w s (nS w s)) else -10000000) ∧ keepX h h') := by
  have hn := (R s hs).2.1
  have tl := toN_le R hs
  -- one row that isn't met
  have step : ∀ i (x : HP × Int32 × Int32), i < nS w s → x.2.1 = nI (toN w s i) → x.2.2 = nI i → fr [34, 35, 37, 38, 39, 40] h x.1 → (∀ j, toN w s i ≤ j → j < toN w s (i + 1) → ¬ v2 = nI j) → ∃ x' : HP × Int32 × Int32, f_TJ_left_b29 0 x.1 (nI s) v2 v3 (nI (nS w s)) x.2.1 x.2.2 = some (.inl x') ∧ x'.2.1 = nI (toN w s (i + 1)) ∧ x'.2.2 = nI (i + 1) ∧ fr [34, 35, 37, 38, 39, 40] h x'.1 := by
    rintro i ⟨hp, v4, v6⟩ hi e4 e6 F hno
    replace e4 : v4 = nI (toN w s i) := e4
    replace e6 : v6 = nI i := e6
    replace F : fr [34, 35, 37, 38, 39, 40] h hp := F
    subst e4; subst e6
    obtain ⟨x1, x2, e1, e2, P, F2⟩ := X_rowL (V.fr F (by decide)) R hs hi
    have t1 := tl (i + 1)
    have e3 : nI (toN w s i) + nI (cN (qN w s i) (cvN w s i)) = nI (toN w s (i + 1)) := by rw [nI_add]; rfl
    refine ⟨(x2, nI (toN w s (i + 1)), nI (i + 1)), ?_, rfl, rfl, F.tr F2⟩
    unfold f_TJ_left_b29
    simp only [Nat.zero_add, if_neg (ngt hi hn), e1, e2, X_loc P, Option.bind_some, nI_1]
    rw [show cN (fun k => decide (lgB w s i (plc w s i k) = none)) (cvN w s i) = cN (qN w s i) (cvN w s i) from rfl, e3]
    by_cases ha : v2 < nI (toN w s i)
    · rw [if_pos ha]
    · rw [if_neg ha]
      by_cases hb : nI (toN w s (i + 1)) ≤ v2
      · rw [if_pos hb]
      · exfalso
        have t0 := tl i
        have hpos : ¬ v2 < 0 := fun z => ha (Int32.lt_of_lt_of_le z (nI_pos' (by omega)))
        obtain ⟨j, hj, rfl⟩ := nI_of hpos
        have ha' : toN w s i ≤ j := by
          rcases Nat.lt_or_ge j (toN w s i) with z | z
          · exact absurd (nI_lt z (by omega)) ha
          · exact z
        have hb' : j < toN w s (i + 1) := by
          rcases Nat.lt_or_ge j (toN w s (i + 1)) with z | z
          · exact z
          · exact absurd (nI_le z hj) hb
        exact hno j ha' hb' rfl
  constructor
  · intro r k hr hk hq hv
    have tr := tl r
    have tr1 := tl (r + 1)
    have hck := cN_lt (p := qN w s r) hk hq
    have hkb := cN_le (qN w s r) k
    have hkc := (cvN_ok R r hs).1
    unfold f_TJ_left_l29
    have key := loop_inv (body := fun x : HP × Int32 × Int32 => f_TJ_left_b29 0 x.1 (nI s) v2 v3 (nI (nS w s)) x.2.1 x.2.2) (fun i (x : HP × Int32 × Int32) => x.2.1 = nI (toN w s i) ∧ x.2.2 = nI i ∧ fr [34, 35, 37, 38, 39, 40] h x.1) r (fun t : HP × Int32 => t.2 = loA w s r k v3 ∧ keepX h t.1) (fun i x hi ⟨e4, e6, F⟩ => ?_) (fun x ⟨e4, e6, F⟩ => ?_) (h, 0, 0) ⟨rfl, rfl, fr.rf⟩
    · obtain ⟨⟨h', z⟩, e, q1, q2⟩ := key
      refine ⟨h', ?_, q2⟩
      rw [e]; exact congrArg (fun z => some (h', z)) q1
    · have hmono : toN w s (i + 1) ≤ toN w s r := by
        have : ∀ d, toN w s (i + 1) ≤ toN w s (i + 1 + d) := by
          intro d; induction d with
          | zero => exact Nat.le_refl _
          | succ d ih => exact Nat.le_trans ih (by rw [show i + 1 + (d + 1) = i + 1 + d + 1 from rfl]; simp only [toN]; omega)
        have := this (r - (i + 1)); rwa [show i + 1 + (r - (i + 1)) = r by omega] at this
      obtain ⟨x', a, b, c, d⟩ := step i x (by omega) e4 e6 F (fun j h1 h2 e => by
        rw [hv] at e
        have := (nI_eq (by omega) (by omega)).mp e; omega)
      exact ⟨x', a, b, c, d⟩
    · obtain ⟨hp, v4, v6⟩ := x
      replace e4 : v4 = nI (toN w s r) := e4
      replace e6 : v6 = nI r := e6
      replace F : fr [34, 35, 37, 38, 39, 40] h hp := F
      subst e4; subst e6
      obtain ⟨x1, x2, e1, e2, P, F2⟩ := X_rowL (V.fr F (by decide)) R hs hr
      refine ⟨(x2, loA w s r k v3), ?_, rfl, (F.tr F2).kX (by decide)⟩
      have e3 : nI (toN w s r) + nI (cN (qN w s r) (cvN w s r)) = nI (toN w s (r + 1)) := by rw [nI_add]; rfl
      have e5 : v2 - nI (toN w s r) = nI (cN (qN w s r) k) := by rw [hv, pk_sub (by omega)]; congr 1; omega
      have ha : ¬ v2 < nI (toN w s r) := by rw [hv]; exact nI_nlt (by omega) (by simp only [toN, loN] at tr1; omega)
      have hb : ¬ nI (toN w s (r + 1)) ≤ v2 := by rw [hv]; exact nI_ge (by simp only [toN, loN]; omega) (by omega)
      show f_TJ_left_b29 0 hp (nI s) v2 v3 (nI (nS w s)) (nI (toN w s r)) (nI r) = _
      unfold f_TJ_left_b29
      simp only [Nat.zero_add, if_neg (ngt hr hn), e1, e2, X_loc P, Option.bind_some]
      rw [show cN (fun k => decide (lgB w s r (plc w s r k) = none)) (cvN w s r) = cN (qN w s r) (cvN w s r) from rfl, e3, if_neg ha, if_neg hb, e5, X_leftOver P hk hq v3]
      rfl
  · intro hno
    unfold f_TJ_left_l29
    have key := loop_inv (body := fun x : HP × Int32 × Int32 => f_TJ_left_b29 0 x.1 (nI s) v2 v3 (nI (nS w s)) x.2.1 x.2.2) (fun i (x : HP × Int32 × Int32) => x.2.1 = nI (toN w s i) ∧ x.2.2 = nI i ∧ fr [34, 35, 37, 38, 39, 40] h x.1) (nS w s) (fun t : HP × Int32 => t.2 = (if v2 = -1 then nI (toN w s (nS w s)) else -10000000) ∧ keepX h t.1) (fun i x hi ⟨e4, e6, F⟩ => ?_) (fun x ⟨e4, e6, F⟩ => ?_) (h, 0, 0) ⟨rfl, rfl, fr.rf⟩
    · obtain ⟨⟨h', z⟩, e, q1, q2⟩ := key
      refine ⟨h', ?_, q2⟩
      rw [e]; exact congrArg (fun z => some (h', z)) q1
    · have hmono : toN w s (i + 1) ≤ toN w s (nS w s) := by
        have : ∀ d, toN w s (i + 1) ≤ toN w s (i + 1 + d) := by
          intro d; induction d with
          | zero => exact Nat.le_refl _
          | succ d ih => exact Nat.le_trans ih (by rw [show i + 1 + (d + 1) = i + 1 + d + 1 from rfl]; simp only [toN]; omega)
        have := this (nS w s - (i + 1)); rwa [show i + 1 + (nS w s - (i + 1)) = nS w s by omega] at this
      obtain ⟨x', a, b, c, d⟩ := step i x hi e4 e6 F (fun j h1 h2 => hno j (by omega))
      exact ⟨x', a, b, c, d⟩
    · obtain ⟨hp, v4, v6⟩ := x
      replace e4 : v4 = nI (toN w s (nS w s)) := e4
      replace e6 : v6 = nI (nS w s) := e6
      replace F : fr [34, 35, 37, 38, 39, 40] h hp := F
      subst e4; subst e6
      refine ⟨(hp, if v2 = -1 then nI (toN w s (nS w s)) else -10000000), ?_, rfl, F.kX (by decide)⟩
      show f_TJ_left_b29 0 hp (nI s) v2 v3 (nI (nS w s)) (nI (toN w s (nS w s))) (nI (nS w s)) = _
      unfold f_TJ_left_b29
      simp only [if_pos (nle _)]
      split <;> rfl
set_option maxHeartbeats 400000 in
theorem toN_mono {w : Nat → Int32} {s a b : Nat} (h : a ≤ b) : toN w s a ≤ toN w s b := by
  obtain ⟨d, rfl⟩ : ∃ d, b = a + d := ⟨b - a, by omega⟩
  induction d with
  | zero => exact Nat.le_refl _
  | succ d ih => exact Nat.le_trans (ih (by omega)) (by rw [show a + (d + 1) = a + d + 1 from rfl]; simp only [toN]; omega)
set_option maxHeartbeats 400000 in
/-- the reference's loop over the pieces of a row -/
theorem M_left1 {m : HP} {w : Nat → Int32} {s r N T : Nat} (hN : N ≤ 81) (hT : T ≤ 81 * 40) (C : CVM m w s r N) (v2 v3 : Int32) : (∀ k, k < N → qN w s r k = true → v2 = nI (T + cN (qN w s r) k) → f_Mo_left_l39 0 m (nI s) v2 v3 (nI r) (nI T, 0) = some (.inr (m, loA w s r k v3))) ∧ ((∀ j, T ≤ j → j < T + cN (qN w s r) N → ¬ v2 = nI j) → f_Mo_left_l39 0 m (nI s) v2 v3 (nI r) (nI T, 0) = some (.inl (m, nI (T + cN (qN w s r) N), nI (r + 1)))) := by
  have st : ∀ i, i < N → (qN w s r i = true → ¬ v2 = nI (T + cN (qN w s r) i)) → f_Mo_left_b39 0 m (nI s) v2 v3 (nI r) (nI (T + cN (qN w s r) i)) (nI i) = some (.inl (nI (T + cN (qN w s r) (i + 1)), nI (i + 1))) := by
    intro i hi hne
    unfold f_Mo_left_b39
    simp only [Nat.zero_add, C.1, if_neg (nI_ge hi (show N < 2 ^ 31 by omega)), if_pos (inb_nI (show i < 200 by omega) (show 200 < 2 ^ 31 by decide)), ix_nI (show i < 2 ^ 31 by omega), (C.2 i hi).2.2, lgB_enc, nI_1, cN]
    by_cases hb : lgB w s r (plc w s r i) = none
    · have hqi : qN w s r i = true := by simp [qN, hb]
      have hn2 : ¬ nI (T + cN (qN w s r) i) = v2 := fun e => hne hqi e.symm
      simp only [if_pos hb, if_neg hn2, hqi, if_true, Nat.add_assoc]
    · have hqi : qN w s r i = false := by simp [qN, hb]
      simp only [if_neg hb, hqi, Bool.false_eq_true, if_false, Nat.add_zero]
  constructor
  · intro k hk hq hv
    have hkb := cN_le (qN w s r) k
    unfold f_Mo_left_l39
    have := loop_up (body := fun x : Int32 × Int32 => f_Mo_left_b39 0 m (nI s) v2 v3 (nI r) x.1 x.2) (t := Sum.inr (m, loA w s r k v3)) (fun i => (nI (T + cN (qN w s r) i), nI i)) k (fun i hi => st i (by omega) (fun hqi e => ?_)) ?_
    · exact this
    · have hlt := cN_lt (p := qN w s r) hi hqi
      rw [hv] at e
      have := (nI_eq (by omega) (by omega)).mp e
      omega
    · have hb : lgB w s r (plc w s r k) = none := by simpa [qN] using hq
      have hi' : inb (nI k) 200 := inb_nI (by omega) (by decide)
      unfold f_Mo_left_b39 loA
      simp only [Nat.zero_add, C.1, if_neg (nI_ge hk (show N < 2 ^ 31 by omega)), if_pos hi', ix_nI (show k < 2 ^ 31 by omega), (C.2 k hk).2.2, (C.2 k hk).1, (C.2 k hk).2.1, lgB_enc, if_pos hb, hv, if_true, M_time, Option.bind_some]
      by_cases c0 : v3 = 0
      · simp only [if_pos c0]; rfl
      · by_cases c1 : v3 = 1
        · simp only [if_neg c0, if_pos c1]; rfl
        · by_cases c2 : v3 = 2
          · simp only [if_neg c0, if_neg c1, if_pos c2]; rfl
          · simp only [if_neg c0, if_neg c1, if_neg c2]; rfl
  · intro hno
    unfold f_Mo_left_l39
    have := loop_up (body := fun x : Int32 × Int32 => f_Mo_left_b39 0 m (nI s) v2 v3 (nI r) x.1 x.2) (t := Sum.inl (m, nI (T + cN (qN w s r) N), nI (r + 1))) (fun i => (nI (T + cN (qN w s r) i), nI i)) N (fun i hi => st i hi (fun hqi e => ?_)) ?_
    · exact this
    · have hlt := cN_lt (p := qN w s r) hi hqi
      exact hno _ (by omega) (by omega) e
    · unfold f_Mo_left_b39
      simp only [C.1, if_pos (nle _), nI_1]
      rfl
set_option maxHeartbeats 400000 in
theorem M_left {m : HP} {w : Nat → Int32} (hw : m.1 1 = w) (R : RowsOk w) {s : Nat} (hs : s < 2) (v2 v3 : Int32) : (∀ r k, r < nS w s → k < cvN w s r → qN w s r k = true → v2 = nI (toN w s r + cN (qN w s r) k) → ∃ m', f_Mo_left_l16 0 m (nI s) v2 v3 (m, 0, 0) = some (m', loA w s r k v3) ∧ frM [3, 4, 5] [6] m m') ∧ ((∀ j, j < toN w s (nS w s) → ¬ v2 = nI j) → ∃ m', f_Mo_left_l16 0 m (nI s) v2 v3 (m, 0, 0) = some (m', if v2 = -1 then nI (toN w s (nS w s)) else -10000000) ∧ frM [3, 4, 5] [6] m m') := by
  have hn := (R s hs).2.1
  have tl := toN_le R hs
  have cov : ∀ i hp, i < nS w s → frM [3, 4, 5] [6] m hp → ∃ m1, f_Mo_covers 0 hp (nI s) (nI i) = some m1 ∧ CVM m1 w s i (cvN w s i) ∧ frM [3, 4, 5] [6] m m1 := by
    intro i hp hi F
    obtain ⟨a, b, c⟩ := cvN_ok R i hs
    obtain ⟨m1, e1, C, G⟩ := M_covers (m := hp) (by rw [F.1 1 (by decide) (by decide)]; exact hw) R hs hi a b c
    exact ⟨m1, e1, C, F.tr G⟩
  have ent : ∀ i hp, i < nS w s → frM [3, 4, 5] [6] m hp → ∀ m1, f_Mo_covers 0 hp (nI s) (nI i) = some m1 → f_Mo_left_b16 0 hp (nI s) v2 v3 (nI (toN w s i)) (nI i) = f_Mo_left_l39 0 m1 (nI s) v2 v3 (nI i) (nI (toN w s i), 0) := by
    intro i hp hi F m1 e1
    unfold f_Mo_left_b16
    have hw' : hp.1 1 = w := by rw [F.1 1 (by decide) (by decide)]; exact hw
    simp only [if_pos (many_ix hs rfl).1, (many_ix hs rfl).2, Nat.zero_add, hw', (R s hs).1, if_neg (ngt hi hn), e1, Option.bind_some]
  have step : ∀ i (x : HP × Int32 × Int32), i < nS w s → x.2.1 = nI (toN w s i) → x.2.2 = nI i → frM [3, 4, 5] [6] m x.1 → (∀ j, toN w s i ≤ j → j < toN w s (i + 1) → ¬ v2 = nI j) → ∃ x' : HP × Int32 × Int32, f_Mo_left_b16 0 x.1 (nI s) v2 v3 x.2.1 x.2.2 = some (.inl x') ∧ x'.2.1 = nI (toN w s (i + 1)) ∧ x'.2.2 = nI (i + 1) ∧ frM [3, 4, 5] [6] m x'.1 := by
    rintro i ⟨hp, v4, v6⟩ hi e4 e6 F hno
    replace e4 : v4 = nI (toN w s i) := e4
    replace e6 : v6 = nI i := e6
    replace F : frM [3, 4, 5] [6] m hp := F
    subst e4; subst e6
    obtain ⟨m1, e1, C, G⟩ := cov i hp hi F
    have ti := tl i
    refine ⟨(m1, nI (toN w s (i + 1)), nI (i + 1)), ?_, rfl, rfl, G⟩
    show f_Mo_left_b16 0 hp (nI s) v2 v3 (nI (toN w s i)) (nI i) = _
    rw [ent i hp hi F m1 e1]
    exact (M_left1 (cvN_ok R i hs).1 (by omega) C v2 v3).2 hno
  constructor
  · intro r k hr hk hq hv
    have tr := tl r
    have hkb := cN_le (qN w s r) k
    have hkc := (cvN_ok R r hs).1
    unfold f_Mo_left_l16
    have key := loop_inv (body := fun x : HP × Int32 × Int32 => f_Mo_left_b16 0 x.1 (nI s) v2 v3 x.2.1 x.2.2) (fun i (x : HP × Int32 × Int32) => x.2.1 = nI (toN w s i) ∧ x.2.2 = nI i ∧ frM [3, 4, 5] [6] m x.1) r (fun t : HP × Int32 => t.2 = loA w s r k v3 ∧ frM [3, 4, 5] [6] m t.1) (fun i x hi ⟨e4, e6, F⟩ => ?_) (fun x ⟨e4, e6, F⟩ => ?_) (m, 0, 0) ⟨rfl, rfl, frM.rf⟩
    · obtain ⟨⟨h', z⟩, e, q1, q2⟩ := key
      refine ⟨h', ?_, q2⟩
      rw [e]; exact congrArg (fun z => some (h', z)) q1
    · have hmono := toN_mono (w := w) (s := s) (show i + 1 ≤ r by omega)
      obtain ⟨x', a, b, c, d⟩ := step i x (by omega) e4 e6 F (fun j h1 h2 e => by
        rw [hv] at e
        have := (nI_eq (by omega) (by omega)).mp e; omega)
      exact ⟨x', a, b, c, d⟩
    · obtain ⟨hp, v4, v6⟩ := x
      replace e4 : v4 = nI (toN w s r) := e4
      replace e6 : v6 = nI r := e6
      replace F : frM [3, 4, 5] [6] m hp := F
      subst e4; subst e6
      obtain ⟨m1, e1, C, G⟩ := cov r hp hr F
      refine ⟨(m1, loA w s r k v3), ?_, rfl, G⟩
      show f_Mo_left_b16 0 hp (nI s) v2 v3 (nI (toN w s r)) (nI r) = _
      rw [ent r hp hr F m1 e1]
      exact (M_left1 hkc (by omega) C v2 v3).1 k hk hq hv
  · intro hno
    unfold f_Mo_left_l16
    have key := loop_inv (body := fun x : HP × Int32 × Int32 => f_Mo_left_b16 0 x.1 (nI s) v2 v3 x.2.1 x.2.2) (fun i (x : HP × Int32 × Int32) => x.2.1 = nI (toN w s i) ∧ x.2.2 = nI i ∧ frM [3, 4, 5] [6] m x.1) (nS w s) (fun t : HP × Int32 => t.2 = (if v2 = -1 then nI (toN w s (nS w s)) else -10000000) ∧ frM [3, 4, 5] [6] m t.1) (fun i x hi ⟨e4, e6, F⟩ => ?_) (fun x ⟨e4, e6, F⟩ => ?_) (m, 0, 0) ⟨rfl, rfl, frM.rf⟩
    · obtain ⟨⟨h', z⟩, e, q1, q2⟩ := key
      refine ⟨h', ?_, q2⟩
      rw [e]; exact congrArg (fun z => some (h', z)) q1
    · have hmono := toN_mono (w := w) (s := s) (show i + 1 ≤ nS w s by omega)
      obtain ⟨x', a, b, c, d⟩ := step i x hi e4 e6 F (fun j h1 h2 => hno j (by omega))
      exact ⟨x', a, b, c, d⟩
    · obtain ⟨hp, v4, v6⟩ := x
      replace e4 : v4 = nI (toN w s (nS w s)) := e4
      replace e6 : v6 = nI (nS w s) := e6
      replace F : frM [3, 4, 5] [6] m hp := F
      subst e4; subst e6
      have hw' : hp.1 1 = w := by rw [F.1 1 (by decide) (by decide)]; exact hw
      refine ⟨(hp, if v2 = -1 then nI (toN w s (nS w s)) else -10000000), ?_, rfl, F⟩
      show f_Mo_left_b16 0 hp (nI s) v2 v3 (nI (toN w s (nS w s))) (nI (nS w s)) = _
      unfold f_Mo_left_b16
      simp only [if_pos (many_ix hs rfl).1, (many_ix hs rfl).2, Nat.zero_add, hw', (R s hs).1, if_pos (nle _)]
      split <;> rfl
set_option maxHeartbeats 400000 in
theorem toN_sur {w : Nat → Int32} {s j : Nat} : ∀ n, j < toN w s n → ∃ r k, r < n ∧ k < cvN w s r ∧ qN w s r k = true ∧ j = toN w s r + cN (qN w s r) k
  | 0, h => by simp [toN] at h
  | n + 1, h => by
    by_cases h1 : j < toN w s n
    · obtain ⟨r, k, a, b⟩ := toN_sur n h1
      exact ⟨r, k, by omega, b⟩
    · simp only [toN, loN] at h
      obtain ⟨k, a, b, c⟩ := cN_sur (p := qN w s n) (c := j - toN w s n) (n := cvN w s n) (by omega)
      exact ⟨n, k, by omega, a, b, by omega⟩
set_option maxHeartbeats 400000 in
theorem q_left {h m : HP} {w : Nat → Int32} (Q : RQ h m w) (v1 v2 v3 : Int32) : Alike2 h m (f_TJ_left 0 h v1 v2 v3) (f_Mo_left 0 m v1 v2 v3) := by
  obtain ⟨hw, V, R, -, hW⟩ := Q
  unfold f_TJ_left f_Mo_left
  rw [X_isSide, M_isSide]
  simp only [Option.bind_some]
  by_cases hv : v1 = 0 ∨ v1 = 1
  · obtain ⟨s, hs, rfl⟩ := side_in hv
    have V1 := V.rv hs
    simp only [if_pos hv, if_neg one0, X_rowsOf (b := 0 + 1) hs rfl, Option.bind_some]
    rw [show rc (0 + 1) s = rc 1 s from rfl, V1.2.1]
    have hX := X_left V R hs v2 v3
    have hM := M_left hw R hs v2 v3
    by_cases hx : ∃ j, j < toN w s (nS w s) ∧ v2 = nI j
    · obtain ⟨j, hj, ej⟩ := hx
      obtain ⟨r, k, hr, hk, hq, e⟩ := toN_sur _ hj
      obtain ⟨h', a, b⟩ := hX.1 r k hr hk hq (by rw [ej, e])
      obtain ⟨m', c, d⟩ := hM.1 r k hr hk hq (by rw [ej, e])
      exact ⟨h', m', _, a, c, b, d.kM (by decide) (by decide) (by decide) (by decide) (by decide)⟩
    · have hno : ∀ j, j < toN w s (nS w s) → ¬ v2 = nI j := fun j h1 h2 => hx ⟨j, h1, h2⟩
      obtain ⟨h', a, b⟩ := hX.2 hno
      obtain ⟨m', c, d⟩ := hM.2 hno
      exact ⟨h', m', _, a, c, b, d.kM (by decide) (by decide) (by decide) (by decide) (by decide)⟩
  · simp only [if_neg hv, if_true]; exact ⟨h, m, _, rfl, rfl, keepX.rf, keepM.rf⟩
