/-! steps -/
def vlst (w : Nat → Int32) (s : Nat) (k pl : Int32) (i : Nat) (x : Int32) : Int32 := x + (if fld w s i 1 = k ∧ there w s i pl = true then fld w s i 4 else 0)
set_option maxHeartbeats 400000 in
theorem vlst_add (w : Nat → Int32) (s : Nat) (k pl a : Int32) : ∀ n, fI (vlst w s k pl) n a = a + fI (vlst w s k pl) n 0
  | 0 => by simp [fI]
  | n + 1 => by simp only [fI, vlst, vlst_add w s k pl a n]; rw [Int32.add_assoc]
def valK (w : Nat → Int32) (k pl : Int32) : Int32 := fI (vlst w 0 k pl) (nS w 0) 0 + fI (vlst w 1 k pl) (nS w 1) 0
set_option maxHeartbeats 400000 in
theorem X_valuesThere {h : HP} {cc : Nat} {w : Nat → Int32} {s n : Nat} (V : RV h cc w s n) (k pl : Int32) : f_Ro_valuesThere cc h k pl = some (fI (vlst w s k pl) n 0) := by
  have hn := V.1
  unfold f_Ro_valuesThere f_Ro_valuesThere_l5
  refine loop_for n (vlst w s k pl) 0 _ (fun i x hi => ?_) ?_
  · unfold f_Ro_valuesThere_b5
    simp only [V.2.1, if_neg (ngt hi hn), if_pos (inb_nI (show i < 40 by omega) (show 40 < 2 ^ 31 by decide)), ix_nI (show i < 2 ^ 31 by omega), (V.2.2 i hi).2.1, (V.2.2 i hi).2.2.2.2, X_isThere V hi, Option.bind_some, nI_1, vlst]
    by_cases a : fld w s i 1 = k
    · by_cases b : there w s i pl = true
      · simp only [if_pos a, if_pos b, if_neg one0, if_pos (show fld w s i 1 = k ∧ there w s i pl = true from ⟨a, b⟩)]
      · simp only [if_pos a, if_neg b, if_true, if_neg (show ¬ (fld w s i 1 = k ∧ there w s i pl = true) from fun z => b z.2), Int32.add_zero]
    · simp only [if_neg a, if_neg (show ¬ (fld w s i 1 = k ∧ there w s i pl = true) from fun z => a z.1), Int32.add_zero]
  · unfold f_Ro_valuesThere_b5
    simp only [V.2.1, if_pos (nle _)]
    rfl
set_option maxHeartbeats 400000 in
theorem M_valuesAt {m : HP} {w : Nat → Int32} (hw : m.1 1 = w) (R : RowsOk w) (k pl : Int32) : f_Mo_valuesAt 0 m k pl = some (valK w k pl) := by
  unfold f_Mo_valuesAt f_Mo_valuesAt_l5
  have e : valK w k pl = fI (fun s x => fI (vlst w s k pl) (nS w s) x) 2 0 := by
    show _ = fI (vlst w 1 k pl) (nS w 1) (fI (vlst w 0 k pl) (nS w 0) 0)
    rw [vlst_add w 1]; rfl
  rw [e]
  refine loop_for 2 (fun s x => fI (vlst w s k pl) (nS w s) x) 0 _ (fun s x hs => ?_) ?_
  · have hn := (R s hs).2.1
    unfold f_Mo_valuesAt_b5 f_Mo_valuesAt_l14
    simp only [if_neg (show ¬ (2 : Int32) ≤ nI s from nI_ge (b := 2) hs (by decide))]
    refine loop_for (nS w s) (vlst w s k pl) x _ (fun i x hi => ?_) ?_
    · unfold f_Mo_valuesAt_b14
      simp only [if_pos (many_ix hs rfl).1, (many_ix hs rfl).2, Nat.zero_add, hw, (R s hs).1, if_neg (ngt hi hn), M_of (h := m) hs (show i < 40 by omega) (k := 1) (v3 := 1) (by omega) rfl rfl rfl, M_of (h := m) hs (show i < 40 by omega) (k := 4) (v3 := 4) (by omega) rfl rfl rfl, M_isLive (h := m) hs (show i < 40 by omega) rfl, Option.bind_some, nI_1, vlst]
      by_cases a : fld w s i 1 = k
      · by_cases b : there w s i pl = true
        · simp only [if_pos a, if_pos b, if_neg one0, if_pos (show fld w s i 1 = k ∧ there w s i pl = true from ⟨a, b⟩)]
        · simp only [if_pos a, if_neg b, if_true, if_neg (show ¬ (fld w s i 1 = k ∧ there w s i pl = true) from fun z => b z.2)]
      · simp only [if_neg a, if_neg (show ¬ (fld w s i 1 = k ∧ there w s i pl = true) from fun z => a z.1)]
    · unfold f_Mo_valuesAt_b14
      simp only [if_pos (many_ix hs rfl).1, (many_ix hs rfl).2, Nat.zero_add, hw, (R s hs).1, if_pos (nle _), nI_1]
      rfl
  · unfold f_Mo_valuesAt_b5
    simp only [if_pos (show (2 : Int32) ≤ nI 2 from nle 2)]
    rfl
def cntN (w : Nat → Int32) (k pl : Int32) : Nat := cN (fun i => keyIs w 0 i k && there w 0 i pl) (nS w 0) + cN (fun i => keyIs w 1 i k && there w 1 i pl) (nS w 1)
set_option maxHeartbeats 400000 in
theorem cntK_N (w : Nat → Int32) (k pl : Int32) : cntK w k pl = nI (cntN w k pl) := by
  have e : ∀ s, fI (lvst w s k pl) (nS w s) 0 = nI (cN (fun i => keyIs w s i k && there w s i pl) (nS w s)) := fun s => cnst_cN _ _
  unfold cntK cntN
  rw [e, e, nI_add]
set_option maxHeartbeats 400000 in
theorem cntN_le {w : Nat → Int32} (R : RowsOk w) (k pl : Int32) : cntN w k pl ≤ 80 := by
  have h0 := cN_le (fun i => keyIs w 0 i k && there w 0 i pl) (nS w 0)
  have h1 := cN_le (fun i => keyIs w 1 i k && there w 1 i pl) (nS w 1)
  have h2 := (R 0 (by omega)).2.1
  have h3 := (R 1 (by omega)).2.1
  unfold cntN; omega
/-- places of the rows of a key: all of the sides ahead of s, the first i of side s -/
def PS (w : Nat → Int32) (key : Int32) (s i : Nat) (x : Int) : Prop := ∃ t r, ((t < s ∧ r < nS w t) ∨ (t = s ∧ r < i)) ∧ fld w t r 1 = key ∧ (x = (sp w t r).toInt ∨ x = (ep w t r).toInt)
set_option maxHeartbeats 400000 in
theorem PS_succ {w : Nat → Int32} {key : Int32} {s i : Nat} (x : Int) : PS w key s (i + 1) x ↔ PS w key s i x ∨ (fld w s i 1 = key ∧ (x = (sp w s i).toInt ∨ x = (ep w s i).toInt)) := by
  constructor
  · rintro ⟨t, r, h1 | ⟨rfl, h1⟩, h2, h3⟩
    · exact Or.inl ⟨t, r, Or.inl h1, h2, h3⟩
    · rcases (show r < i ∨ r = i by omega) with z | rfl
      · exact Or.inl ⟨t, r, Or.inr ⟨rfl, z⟩, h2, h3⟩
      · exact Or.inr ⟨h2, h3⟩
  · rintro (⟨t, r, h1 | ⟨rfl, h1⟩, h2, h3⟩ | ⟨h2, h3⟩)
    · exact ⟨t, r, Or.inl h1, h2, h3⟩
    · exact ⟨t, r, Or.inr ⟨rfl, by omega⟩, h2, h3⟩
    · exact ⟨s, i, Or.inr ⟨rfl, by omega⟩, h2, h3⟩
set_option maxHeartbeats 400000 in
theorem PS_side {w : Nat → Int32} {key : Int32} {s : Nat} (x : Int) : PS w key s (nS w s) x ↔ PS w key (s + 1) 0 x := by
  constructor
  · rintro ⟨t, r, h1 | ⟨rfl, h1⟩, h2, h3⟩
    · exact ⟨t, r, Or.inl ⟨by omega, h1.2⟩, h2, h3⟩
    · exact ⟨t, r, Or.inl ⟨by omega, h1⟩, h2, h3⟩
  · rintro ⟨t, r, h1 | ⟨rfl, h1⟩, h2, h3⟩
    · rcases (show t < s ∨ t = s by omega) with z | rfl
      · exact ⟨t, r, Or.inl ⟨z, h1.2⟩, h2, h3⟩
      · exact ⟨t, r, Or.inr ⟨rfl, h1.2⟩, h2, h3⟩
    · omega
set_option maxHeartbeats 400000 in
theorem M_cuts2 {m : HP} {k : Nat} {P Q : Int → Prop} (C : CT m k P) (hk : k + 1 < 190) {w : Nat → Int32} (hw : m.1 1 = w) {s r : Nat} (hs : s < 2) (hr : r < 40) (e : ∀ x, Q x ↔ P x ∨ (x = (sp w s r).toInt ∨ x = (ep w s r).toInt)) : ∃ m1 m2 k', f_Mo_cuts 0 m (sp w s r) = some m1 ∧ f_Mo_endOf 0 m1 (nI s) (nI r) = some (ep w s r) ∧ f_Mo_cuts 0 m1 (ep w s r) = some m2 ∧ CT m2 k' Q ∧ k' ≤ k + 2 ∧ frM [7] [9] m m2 := by
  obtain ⟨m1, k1, e1, C1, l1, F1⟩ := M_cuts C (by omega) (sp w s r)
  obtain ⟨m2, k2, e2, C2, l2, F2⟩ := M_cuts C1 (by omega) (ep w s r)
  have hw1 : m1.1 1 = w := by rw [F1.1 1 (by decide) (by decide)]; exact hw
  refine ⟨m1, m2, k2, e1, ?_, e2, ⟨C2.1, C2.2.1, C2.2.2.cg (fun x => ?_)⟩, by omega, F1.tr F2⟩
  · rw [M_end hs hr rfl rfl, hw1]
  · rw [e x, or_assoc]
set_option maxHeartbeats 400000 in
/-- the reference's cuts of a key -/
theorem M_stepsCut {m : HP} {w : Nat → Int32} (hw : m.1 1 = w) (R : RowsOk w) (v1 v2 v3 : Int32) : ∃ m' k, f_Mo_steps_l18 0 (upI m 0 9 0) v1 v2 v3 (upI m 0 9 0, 0) = f_Mo_steps_l99 0 m' v1 v2 v3 (0, 0) ∧ CT m' k (PS w v1 2 0) ∧ k ≤ 160 ∧ frM [7] [9] m m' := by
  have n0 := (R 0 (by omega)).2.1
  have n1 := (R 1 (by omega)).2.1
  have F0 : frM [7] [9] m (upI m 0 9 0) := frM.up0 _ (by decide)
  have C0 : CT (upI m 0 9 0) 0 (PS w v1 0 0) := ⟨by rw [upI_s, if_pos rfl]; rfl, by omega, fun i j _ h => by omega, fun j h => by omega, fun x ⟨t, r, h, _⟩ => by omega⟩
  -- a side
  have side : ∀ s, s < 2 → ∀ hp k0, CT hp k0 (PS w v1 s 0) → k0 ≤ 80 * s → frM [7] [9] m hp → ∃ m' k, f_Mo_steps_l27 0 hp v1 v2 v3 (nI s) (hp, 0) = some (.inl (m', nI (s + 1))) ∧ CT m' k (PS w v1 (s + 1) 0) ∧ k ≤ 80 * (s + 1) ∧ frM [7] [9] m m' := by
    intro s hs hp k0 C hk0 F
    have hn := (R s hs).2.1
    unfold f_Mo_steps_l27
    have key := loop_inv (body := fun x : HP × Int32 => f_Mo_steps_b27 0 x.1 v1 v2 v3 (nI s) x.2) (fun i (x : HP × Int32) => x.2 = nI i ∧ ∃ k, CT x.1 k (PS w v1 s i) ∧ k ≤ k0 + 2 * i ∧ frM [7] [9] m x.1) (nS w s) (fun t : (HP × Int32) ⊕ (HP × Int32) => ∃ m' k, t = .inl (m', nI (s + 1)) ∧ CT m' k (PS w v1 (s + 1) 0) ∧ k ≤ 80 * (s + 1) ∧ frM [7] [9] m m') (fun i x hi hI => ?_) (fun x hI => ?_) (hp, 0) ⟨rfl, k0, C, by omega, F⟩
    · obtain ⟨t, e, m', k, et, C', l', F'⟩ := key
      exact ⟨m', k, by rw [e, et], C', l', F'⟩
    · obtain ⟨hx, v5⟩ := x
      obtain ⟨e5, k, C, hk, F⟩ := hI
      replace e5 : v5 = nI i := e5
      replace C : CT hx k (PS w v1 s i) := C
      replace F : frM [7] [9] m hx := F
      subst e5
      have hwx : hx.1 1 = w := by rw [F.1 1 (by decide) (by decide)]; exact hw
      show ∃ s', f_Mo_steps_b27 0 hx v1 v2 v3 (nI s) (nI i) = some (.inl s') ∧ _
      unfold f_Mo_steps_b27
      simp only [if_pos (many_ix hs rfl).1, (many_ix hs rfl).2, Nat.zero_add, hwx, (R s hs).1, if_neg (ngt hi hn), M_of (h := hx) hs (show i < 40 by omega) (k := 1) (v3 := 1) (by omega) rfl rfl rfl, M_start (h := hx) hs (show i < 40 by omega) rfl rfl, Option.bind_some, nI_1]
      by_cases a : fld w s i 1 = v1
      · obtain ⟨m1, m2, k', e1, e2, e3, C2, l2, F2⟩ := M_cuts2 (Q := PS w v1 s (i + 1)) C (by omega) hwx hs (show i < 40 by omega) (fun x => by rw [PS_succ]; simp [a])
        refine ⟨(m2, nI (i + 1)), ?_, rfl, k', C2, by omega, F.tr F2⟩
        simp only [if_pos a, e1, e2, e3, Option.bind_some]
      · refine ⟨(hx, nI (i + 1)), by simp only [if_neg a], rfl, k, ⟨C.1, C.2.1, C.2.2.cg (fun x => by rw [PS_succ]; simp [a])⟩, by omega, F⟩
    · obtain ⟨hx, v5⟩ := x
      obtain ⟨e5, k, C, hk, F⟩ := hI
      replace e5 : v5 = nI (nS w s) := e5
      replace C : CT hx k (PS w v1 s (nS w s)) := C
      replace F : frM [7] [9] m hx := F
      subst e5
      have hwx : hx.1 1 = w := by rw [F.1 1 (by decide) (by decide)]; exact hw
      refine ⟨.inl (hx, nI (s + 1)), ?_, hx, k, rfl, ⟨C.1, C.2.1, C.2.2.cg (fun x => PS_side x)⟩, by omega, F⟩
      show f_Mo_steps_b27 0 hx v1 v2 v3 (nI s) (nI (nS w s)) = _
      unfold f_Mo_steps_b27
      simp only [if_pos (many_ix hs rfl).1, (many_ix hs rfl).2, Nat.zero_add, hwx, (R s hs).1, if_pos (nle _), nI_1]
      rfl
  obtain ⟨m1, k1, e1, C1, l1, F1⟩ := side 0 (by omega) _ 0 C0 (by omega) F0
  obtain ⟨m2, k2, e2, C2, l2, F2⟩ := side 1 (by omega) _ k1 C1 (by omega) F1
  refine ⟨m2, k2, ?_, C2, by omega, F2⟩
  unfold f_Mo_steps_l18
  rw [loop_inl (s' := (m1, nI 1)), loop_inl (s' := (m2, nI 2))]
  · cases hr : f_Mo_steps_l99 0 m2 v1 v2 v3 (0, 0) with
    | some t =>
      apply loop_inr
      unfold f_Mo_steps_b18
      simp only [if_pos (show (2 : Int32) ≤ nI 2 from nle 2), hr]
      rfl
    | none =>
      unfold loop
      rw [dif_neg]
      rintro ⟨t, n, h⟩
      cases n with
      | zero => simp [iterN] at h
      | succ n =>
        unfold iterN f_Mo_steps_b18 at h
        simp only [if_pos (show (2 : Int32) ≤ nI 2 from nle 2), hr, Option.map_none] at h
        cases h
  · unfold f_Mo_steps_b18
    simp only [if_neg (show ¬ (2 : Int32) ≤ nI 1 by decide)]
    exact e2
  · unfold f_Mo_steps_b18
    simp only [if_neg (show ¬ (2 : Int32) ≤ 0 by decide)]
    exact e1
