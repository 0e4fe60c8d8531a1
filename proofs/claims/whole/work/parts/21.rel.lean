/-! the class's rows against the reference's row of numbers -/
def RV (h : HP) (cc : Nat) (w : Nat → Int32) (s n : Nat) : Prop := n ≤ 40 ∧ h.1 cc 5 = nI n ∧ ∀ r, r < n → h.1 (cc + 1) r = fld w s r 0 ∧ h.1 (cc + 2) r = fld w s r 1 ∧ h.1 (cc + 3) r = fld w s r 2 ∧ h.1 (cc + 4) r = fld w s r 3 ∧ h.1 (cc + 5) r = fld w s r 4
theorem X_has {h : HP} {cc n : Nat} (hn : h.1 cc 5 = nI n) (v : Int32) : f_Ro_has cc h v = some (if 0 ≤ v ∧ v < nI n then 1 else 0) := by
  unfold f_Ro_has; rw [hn]; grind
theorem has_in {r n : Nat} (hr : r < n) (hn : n ≤ 40) : 0 ≤ nI r ∧ nI r < nI n := ⟨nI_pos' (by omega), nI_lt hr (by omega)⟩
section XR
variable {h : HP} {cc : Nat} {w : Nat → Int32} {s n r : Nat}
theorem X_start (V : RV h cc w s n) (hr : r < n) : f_Ro_startPlace cc h (nI r) = some (sp w s r) := by
  have h40 := V.1
  unfold f_Ro_startPlace
  rw [X_has V.2.1, if_pos (has_in hr V.1)]
  simp only [Option.bind_some]
  rw [if_neg (by decide), if_pos (inb_nI (by omega) (by omega)), ix_nI (by omega), (V.2.2 r hr).2.2.1]
  rfl
theorem X_end (V : RV h cc w s n) (hr : r < n) : f_Ro_endPlace cc h (nI r) = some (ep w s r) := by
  have h40 := V.1
  unfold f_Ro_endPlace ep
  rw [X_has V.2.1, if_pos (has_in hr V.1)]
  simp only [Option.bind_some]
  have hi : inb (nI r) 40 := inb_nI (by omega) (by omega)
  rw [if_neg (by decide)]
  simp only [if_pos hi, ix_nI (show r < 2 ^ 31 by omega), (V.2.2 r hr).2.2.1, (V.2.2 r hr).2.2.2.1]
  by_cases e : fld w s r 2 = fld w s r 3
  · rw [if_pos e, if_pos e.symm]
  · rw [if_neg e, if_neg (fun z => e z.symm)]
theorem X_key (V : RV h cc w s n) (hr : r < n) : f_Ro_keyOf cc h (nI r) = some (fld w s r 1) := by
  have h40 := V.1
  unfold f_Ro_keyOf
  rw [X_has V.2.1, if_pos (has_in hr V.1)]
  simp only [Option.bind_some]
  rw [if_neg (by decide), if_pos (inb_nI (by omega) (by omega)), ix_nI (by omega), (V.2.2 r hr).2.1]
theorem X_val (V : RV h cc w s n) (hr : r < n) : f_Ro_valueOf cc h (nI r) = some (fld w s r 4) := by
  have h40 := V.1
  unfold f_Ro_valueOf
  rw [X_has V.2.1, if_pos (has_in hr V.1)]
  simp only [Option.bind_some]
  rw [if_neg (by decide), if_pos (inb_nI (by omega) (by omega)), ix_nI (by omega), (V.2.2 r hr).2.2.2.2]
theorem X_long (V : RV h cc w s n) (hr : r < n) : f_Ro_longOf cc h (nI r) = some (fld w s r 3 - fld w s r 2) := by
  have h40 := V.1
  unfold f_Ro_longOf
  rw [X_has V.2.1, if_pos (has_in hr V.1)]
  simp only [Option.bind_some]
  have hi : inb (nI r) 40 := inb_nI (by omega) (by omega)
  rw [if_neg (by decide)]
  simp only [if_pos hi, ix_nI (show r < 2 ^ 31 by omega), (V.2.2 r hr).2.2.1, (V.2.2 r hr).2.2.2.1]
end XR
/-- what a question looks at: settings and rows -/
def SV (h : HP) (b : Nat) (w : Nat → Int32) : Prop := h.1 b 6 = w 0 ∧ h.1 b 7 = w 1 ∧ RV h (b + 1) w 0 (nS w 0) ∧ RV h (b + 7) w 1 (nS w 1)
def RowOk (w : Nat → Int32) (s r : Nat) : Prop := (0 ≤ fld w s r 0 ∧ fld w s r 0 ≤ 3) ∧ (0 ≤ fld w s r 1 ∧ fld w s r 1 ≤ 9) ∧ -1000000 ≤ (fld w s r 2).toInt ∧ (fld w s r 2).toInt ≤ (fld w s r 3).toInt ∧ (fld w s r 3).toInt ≤ 1000000
def RowsOk (w : Nat → Int32) : Prop := ∀ s, s < 2 → w (2 + s) = nI (nS w s) ∧ nS w s ≤ 40 ∧ ∀ r, r < nS w s → RowOk w s r
def rc (b s : Nat) : Nat := if s = 0 then b + 1 else b + 7
theorem SV.rv {h : HP} {b : Nat} {w : Nat → Int32} (V : SV h b w) {s : Nat} (hs : s < 2) : RV h (rc b s) w s (nS w s) := by
  rcases (show s = 0 ∨ s = 1 by omega) with rfl | rfl
  · exact V.2.2.1
  · exact V.2.2.2
theorem X_rowsOf {h : HP} {b s : Nat} (hs : s < 2) {v : Int32} (e : v = nI s) : f_St_rowsOf b h v = some (rc b s) := by
  subst e
  rcases (show s = 0 ∨ s = 1 by omega) with rfl | rfl <;> rfl
theorem one_sub {s : Nat} (hs : s < 2) : (1 - nI s : Int32) = nI (1 - s) := by
  rcases (show s = 0 ∨ s = 1 by omega) with rfl | rfl <;> rfl
section XS
variable {h : HP} {b : Nat} {w : Nat → Int32} {s r o : Nat}
theorem X_keysFit (V : SV h b w) (hs : s < 2) (hr : r < nS w s) (ho : o < nS w (1 - s)) : f_St_keysFit b h (nI s) (nI r) (nI o) = some (if w 0 = 0 ∨ fld w s r 1 = fld w (1 - s) o 1 then 1 else 0) := by
  unfold f_St_keysFit
  rw [V.1, X_rowsOf hs rfl, X_rowsOf (s := 1 - s) (by omega) (one_sub hs)]
  simp only [Option.bind_some]
  rw [X_key (V.rv hs) hr]
  simp only [Option.bind_some]
  rw [X_key (V.rv (by omega)) ho]
  simp only [Option.bind_some]
  split
  · simp [*]
  · split <;> simp [*]
theorem X_kindOf {s2 : Nat} (V : SV h b w) (hs : s < 2) (hr : r < nS w s) (hs2 : s2 < 2) (ho : o < nS w s2) {v1 v3 : Int32} (e1 : v1 = nI s) (e3 : v3 = nI s2) : f_St_kindOf b h v1 (nI r) v3 (nI o) = some (kK (sp w s r) (ep w s r) (sp w s2 o) (ep w s2 o)) := by
  unfold f_St_kindOf
  rw [X_rowsOf hs e1, X_rowsOf hs2 e3]
  simp only [Option.bind_some]
  rw [X_start (V.rv hs) hr, X_end (V.rv hs) hr]
  simp only [Option.bind_some]
  rw [X_start (V.rv hs2) ho, X_end (V.rv hs2) ho]
  simp only [Option.bind_some, X_kind]
theorem X_prt (V : SV h b w) (hs : s < 2) (hr : r < nS w s) (ho : o < nS w (1 - s)) : f_St_arePartners b h (nI s) (nI r) (nI o) = some (if prt w s r o then 1 else 0) := by
  unfold f_St_arePartners f_St_arePartners_j35
  rw [X_keysFit V hs hr ho]
  simp only [Option.bind_some]
  rcases (show s = 0 ∨ s = 1 by omega) with rfl | rfl
  · rw [if_pos (show nI 0 = 0 from rfl), X_kindOf (s := 0) (v1 := 0) (s2 := 1) (v3 := 1) V (by omega) hr (by omega) ho rfl rfl]
    simp only [Option.bind_some, V.2.1, X_holds]
    have e : prt w 0 r o = part w r o := rfl
    rw [e]
    by_cases h1 : w 0 = 0 ∨ fld w 0 r 1 = fld w 1 o 1
    · have e : part w r o = bit (w 1) (kK (sp w 0 r) (ep w 0 r) (sp w 1 o) (ep w 1 o)) := by
        have : (decide (w 0 = 0) || decide (fld w 0 r 1 = fld w 1 o 1)) = true := by simpa using h1
        unfold part; rw [this, Bool.true_and]
      rw [if_pos h1, if_neg (by decide), e]
      split <;> rfl
    · have e : part w r o = false := by
        have : (decide (w 0 = 0) || decide (fld w 0 r 1 = fld w 1 o 1)) = false := by simpa using h1
        unfold part; rw [this, Bool.false_and]
      rw [if_neg h1, if_pos rfl, e]
      rfl
  · rw [if_neg (show ¬ nI 1 = 0 by decide), X_kindOf (s := 0) (v1 := 0) (s2 := 1) (v3 := 1) V (by omega) ho (by omega) hr rfl rfl]
    simp only [Option.bind_some, V.2.1, X_holds]
    have e : prt w 1 r o = part w o r := rfl
    rw [e]
    by_cases h1 : w 0 = 0 ∨ fld w 1 r 1 = fld w 0 o 1
    · have e : part w o r = bit (w 1) (kK (sp w 0 o) (ep w 0 o) (sp w 1 r) (ep w 1 r)) := by
        have : (decide (w 0 = 0) || decide (fld w 0 o 1 = fld w 1 r 1)) = true := by
          rcases h1 with h1 | h1 <;> simp [h1]
        unfold part; rw [this, Bool.true_and]
      rw [if_pos h1, if_neg (by decide), e]
      split <;> rfl
    · have e : part w o r = false := by
        have : (decide (w 0 = 0) || decide (fld w 0 o 1 = fld w 1 r 1)) = false := by
          simp only [Bool.or_eq_false_iff, decide_eq_false_iff_not]
          exact ⟨fun z => h1 (Or.inl z), fun z => h1 (Or.inr z.symm)⟩
        unfold part; rw [this, Bool.false_and]
      rw [if_neg h1, if_pos rfl, e]
      rfl
theorem X_sharedFrom {l r : Nat} (V : SV h b w) (hl : l < nS w 0) (hr : r < nS w 1) : f_St_sharedFrom b h (nI l) (nI r) = some (if sp w 0 l < sp w 1 r then sp w 1 r else sp w 0 l) := by
  unfold f_St_sharedFrom
  rw [X_start V.2.2.1 hl, X_start V.2.2.2 hr]; rfl
theorem X_sharedTo {l r : Nat} (V : SV h b w) (hl : l < nS w 0) (hr : r < nS w 1) : f_St_sharedTo b h (nI l) (nI r) = some (if ep w 1 r < ep w 0 l then ep w 1 r else ep w 0 l) := by
  unfold f_St_sharedTo
  rw [X_end V.2.2.1 hl, X_end V.2.2.2 hr]; rfl
def shL (w : Nat → Int32) (l r : Nat) : Int32 := ((if ep w 1 r < ep w 0 l then ep w 1 r else ep w 0 l) >>> (1 &&& 31)) - ((if sp w 0 l < sp w 1 r then sp w 1 r else sp w 0 l) >>> (1 &&& 31))
theorem X_sharedLong {l r : Nat} (V : SV h b w) (hl : l < nS w 0) (hr : r < nS w 1) : f_St_sharedLong b h (nI l) (nI r) = some (shL w l r) := by
  unfold f_St_sharedLong
  rw [X_sharedFrom V hl hr, X_sharedTo V hl hr]; rfl
end XS
theorem M_sharedFrom {h : HP} {l r : Nat} (hl : l < 40) (hr : r < 40) : f_Mo_sharedFrom 0 h (nI l) (nI r) = some (if sp (h.1 1) 0 l < sp (h.1 1) 1 r then sp (h.1 1) 1 r else sp (h.1 1) 0 l) := by
  unfold f_Mo_sharedFrom
  rw [M_start (s := 0) (v1 := 0) (by omega) hl rfl rfl, M_start (s := 1) (v1 := 1) (by omega) hr rfl rfl]
  simp only [Option.bind_some, M_more]
theorem M_sharedTo {h : HP} {l r : Nat} (hl : l < 40) (hr : r < 40) : f_Mo_sharedTo 0 h (nI l) (nI r) = some (if ep (h.1 1) 1 r < ep (h.1 1) 0 l then ep (h.1 1) 1 r else ep (h.1 1) 0 l) := by
  unfold f_Mo_sharedTo
  rw [M_end (s := 0) (v1 := 0) (by omega) hl rfl rfl, M_end (s := 1) (v1 := 1) (by omega) hr rfl rfl]
  simp only [Option.bind_some, M_less]
theorem M_sharedLong {h : HP} {l r : Nat} (hl : l < 40) (hr : r < 40) : f_Mo_sharedLong 0 h (nI l) (nI r) = some (shL (h.1 1) l r) := by
  unfold f_Mo_sharedLong
  rw [M_sharedFrom hl hr, M_sharedTo hl hr]; rfl
/-- w's counters of rows, as a place of the reference's row -/
theorem many_ix {s : Nat} (hs : s < 2) {v : Int32} (e : v = nI s) : inb (2 + v) 4100 ∧ ix (2 + v) = 2 + s := by
  have e2 : 2 + v = nI (2 + s) := by rw [e]; simp only [← nI_add]; rfl
  exact ⟨inbn e2 (by omega) (by omega), ixn e2 (by omega)⟩
theorem row_in {v : Int32} {n : Nat} (hn : n ≤ 40) (h : 0 ≤ v ∧ v < nI n) : ∃ r, r < n ∧ v = nI r := by
  obtain ⟨j, hj, rfl⟩ := nI_of (x := v) (by grind)
  exact ⟨j, (nI_ltI hj (by omega)).mp h.2, rfl⟩
theorem side_in {v : Int32} (h : v = 0 ∨ v = 1) : ∃ s, s < 2 ∧ v = nI s := by
  rcases h with rfl | rfl
  · exact ⟨0, by omega, rfl⟩
  · exact ⟨1, by omega, rfl⟩
/-- a row that there is: a side and a number; or both sides say that there is none -/
theorem isRow_both {h m : HP} {w : Nat → Int32} (hw : m.1 1 = w) (V : SV h 1 w) (R : RowsOk w) (v1 v2 : Int32) : (f_TJ_isRow 0 h v1 v2 = some 0 ∧ f_Mo_isRow 0 m v1 v2 = some 0) ∨ (f_TJ_isRow 0 h v1 v2 = some 1 ∧ f_Mo_isRow 0 m v1 v2 = some 1 ∧ ∃ s r, s < 2 ∧ r < nS w s ∧ v1 = nI s ∧ v2 = nI r) := by
  unfold f_TJ_isRow f_Mo_isRow
  rw [X_isSide, M_isSide]
  simp only [Option.bind_some]
  by_cases hv : v1 = 0 ∨ v1 = 1
  · obtain ⟨s, hs, rfl⟩ := side_in hv
    have V1 := V.rv hs
    rw [if_pos hv, if_neg (by decide), if_neg (by decide), X_rowsOf (b := 0 + 1) hs rfl, if_pos (many_ix hs rfl).1, (many_ix hs rfl).2]
    simp only [Option.bind_some]
    rw [X_has V1.2.1, M_isIn, hw, (R s hs).1]
    simp only [Option.bind_some]
    have hn := (R s hs).2.1
    by_cases hr : 0 ≤ v2 ∧ v2 < nI (nS w s)
    · obtain ⟨r, hr', rfl⟩ := row_in hn hr
      right
      have h2 : nI r ≤ nI (nS w s) - 1 := by
        rw [show nI (nS w s) - 1 = nI (nS w s - 1) from pk_sub (b := 1) (by omega)]; exact nI_le (by omega) (by omega)
      have h3 : 0 ≤ nI r ∧ nI r ≤ nI (nS w s) - 1 := ⟨hr.1, h2⟩
      rw [if_pos hr, if_pos h3]
      exact ⟨rfl, rfl, s, r, hs, hr', rfl, rfl⟩
    · left
      have h3 : ¬ (0 ≤ v2 ∧ v2 ≤ nI (nS w s) - 1) := by
        rintro ⟨h1, h2⟩
        apply hr
        refine ⟨h1, ?_⟩
        rcases Nat.eq_zero_or_pos (nS w s) with h0 | h0
        · rw [h0] at h2 ⊢
          have : (nI 0 - 1 : Int32) = -1 := by decide
          rw [this] at h2
          exact absurd (Int32.le_trans h1 h2) (by decide)
        · rw [show nI (nS w s) - 1 = nI (nS w s - 1) from pk_sub (b := 1) (by omega)] at h2
          exact Int32.lt_of_le_of_lt h2 (nI_lt (by omega) (by omega))
      rw [if_neg hr, if_neg h3]
      exact ⟨rfl, rfl⟩
  · left
    rw [if_neg hv, if_pos rfl, if_pos rfl]
    exact ⟨rfl, rfl⟩
