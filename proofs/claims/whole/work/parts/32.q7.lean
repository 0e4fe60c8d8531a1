/-! row, piece -/
def mxN (p : Nat → Bool) (g : Nat → Nat) (n b : Nat) : Nat := fI (fun k x => if p k then (if x < g k then g k else x) else x) n b
set_option maxHeartbeats 400000 in
theorem mxN_le {p : Nat → Bool} {g : Nat → Nat} {X : Nat} : ∀ n b, mxN p g n b ≤ X ↔ b ≤ X ∧ ∀ k, k < n → p k = true → g k ≤ X
  | 0, b => ⟨fun h => ⟨h, fun k hk => by omega⟩, fun h => h.1⟩
  | n + 1, b => by
    have ih := mxN_le (p := p) (g := g) (X := X) n b
    have e : mxN p g (n + 1) b = if p n then (if mxN p g n b < g n then g n else mxN p g n b) else mxN p g n b := rfl
    rw [e]
    constructor
    · intro h
      have h1 : mxN p g n b ≤ X := by
        by_cases hp : p n = true
        · rw [if_pos hp] at h; split at h <;> omega
        · rw [if_neg hp] at h; exact h
      obtain ⟨a, c⟩ := ih.mp h1
      refine ⟨a, fun k hk hpk => ?_⟩
      rcases (show k < n ∨ k = n by omega) with h2 | rfl
      · exact c k h2 hpk
      · rw [if_pos hpk] at h; split at h <;> omega
    · rintro ⟨a, c⟩
      have h1 := ih.mpr ⟨a, fun k hk => c k (by omega)⟩
      split
      · rename_i hp
        have := c n (by omega) hp
        split <;> omega
      · exact h1
set_option maxHeartbeats 400000 in
theorem mxN_nI {p : Nat → Bool} {g : Nat → Nat} {b : Nat} (hb : b ≤ 40) : ∀ n, (∀ k, k < n → g k ≤ 40) → fI (fun k (x : Int32) => if p k then (if x < nI (g k) then nI (g k) else x) else x) n (nI b) = nI (mxN p g n b) ∧ mxN p g n b ≤ 40
  | 0, _ => ⟨rfl, hb⟩
  | n + 1, hg => by
    obtain ⟨ih, hl⟩ := mxN_nI (p := p) hb n (fun k hk => hg k (by omega))
    have hgn := hg n (by omega)
    have e : mxN p g (n + 1) b = if p n then (if mxN p g n b < g n then g n else mxN p g n b) else mxN p g n b := rfl
    refine ⟨?_, by rw [e]; split <;> (try split) <;> omega⟩
    simp only [fI]
    rw [ih, e]
    by_cases hp : p n = true
    · rw [if_pos hp, if_pos hp]
      by_cases hx : mxN p g n b < g n
      · rw [if_pos hx, if_pos (nI_lt hx (by omega))]
      · rw [if_neg hx, if_neg (nI_nlt (by omega) (by omega))]
    · rw [if_neg hp, if_neg hp]
set_option maxHeartbeats 400000 in
theorem thC_le (w : Nat → Int32) (s r : Nat) (pl : Int32) : thC w s r pl ≤ nS w (1 - s) := cN_le _ _
def dpM (w : Nat → Int32) (s r : Nat) : Nat := mxN (prt w s r) (fun k => thC w s r (sp w (1 - s) k)) (nS w (1 - s)) 0
set_option maxHeartbeats 400000 in
theorem M_depth {m : HP} {w : Nat → Int32} (hw : m.1 1 = w) (R : RowsOk w) {s r : Nat} (hs : s < 2) (hr : r < nS w s) : f_Mo_depth 0 m (nI s) (nI r) = some (nI (dpM w s r)) := by
  have hs' : 1 - s < 2 := by omega
  have hn := (R (1 - s) hs').2.1
  have hn2 := (R s hs).2.1
  unfold dpM
  rw [← (mxN_nI (p := prt w s r) (g := fun k => thC w s r (sp w (1 - s) k)) (b := 0) (by omega) (nS w (1 - s)) (fun k hk => Nat.le_trans (thC_le w s r _) hn)).1]
  unfold f_Mo_depth f_Mo_depth_l5
  refine loop_for (nS w (1 - s)) (fun k (x : Int32) => if prt w s r k then (if x < nI (thC w s r (sp w (1 - s) k)) then nI (thC w s r (sp w (1 - s) k)) else x) else x) 0 _ (fun i x hi => ?_) ?_
  · unfold f_Mo_depth_b5
    simp only [if_pos (many_ix3 hs).1, (many_ix3 hs).2, Nat.zero_add, hw, (R (1 - s) hs').1, if_neg (ngt hi hn), M_prt (h := m) hs (show r < 40 by omega) (show i < 40 by omega), one_sub hs, M_start (h := m) hs' (show i < 40 by omega) rfl rfl, M_partnersAt hw R hs hr, M_more, Option.bind_some, nI_1]
    by_cases hp : prt w s r i = true
    · simp only [if_pos hp, if_neg one0]
    · simp only [if_neg hp, if_true]
  · unfold f_Mo_depth_b5
    simp only [if_pos (many_ix3 hs).1, (many_ix3 hs).2, Nat.zero_add, hw, (R (1 - s) hs').1, if_pos (nle _)]
    rfl
def dpX (w : Nat → Int32) (s r : Nat) : Nat := mxN (fun k => prt w s r k && decide (¬ sp w (1 - s) k ≤ sp w s r)) (fun k => thC w s r (sp w (1 - s) k)) (nS w (1 - s)) (thC w s r (sp w s r))
set_option maxHeartbeats 400000 in
theorem X_depth {h : HP} {w : Nat → Int32} {s r : Nat} (M : MW h w s r (nS w (1 - s))) (hn : nS w (1 - s) ≤ 40) : f_Ma_depth 37 h = some (nI (dpX w s r)) := by
  have hc := cN_le (prt w s r) (nS w (1 - s))
  unfold dpX
  rw [← (mxN_nI (p := fun k => prt w s r k && decide (¬ sp w (1 - s) k ≤ sp w s r)) (g := fun k => thC w s r (sp w (1 - s) k)) (b := thC w s r (sp w s r)) (Nat.le_trans (thC_le w s r _) hn) (nS w (1 - s)) (fun k hk => Nat.le_trans (thC_le w s r _) hn)).1]
  rw [show fI (fun k (x : Int32) => if (prt w s r k && decide (¬ sp w (1 - s) k ≤ sp w s r)) = true then (if x < nI (thC w s r (sp w (1 - s) k)) then nI (thC w s r (sp w (1 - s) k)) else x) else x) (nS w (1 - s)) (nI (thC w s r (sp w s r))) = fI (fun k (x : Int32) => if prt w s r k then (if sp w (1 - s) k ≤ sp w s r then x else (if x < nI (thC w s r (sp w (1 - s) k)) then nI (thC w s r (sp w (1 - s) k)) else x)) else x) (nS w (1 - s)) (nI (thC w s r (sp w s r))) from fI_congr _ (fun i x _ => by
    by_cases hp : prt w s r i = true <;> by_cases ha : sp w (1 - s) i ≤ sp w s r <;> simp [hp, ha])]
  rw [← fI_sim1 (prt w s r) (fun j (x : Int32) => if h.1 39 j ≤ sp w s r then x else (if x < nI (thC w s r (h.1 39 j)) then nI (thC w s r (h.1 39 j)) else x)) (fun k (x : Int32) => if sp w (1 - s) k ≤ sp w s r then x else (if x < nI (thC w s r (sp w (1 - s) k)) then nI (thC w s r (sp w (1 - s) k)) else x)) (nS w (1 - s)) (fun k hk hp x => by
    obtain ⟨-, b, -⟩ := M.2.2.2 k hk hp
    simp only [b])]
  unfold f_Ma_depth
  rw [M.1, X_countAt M hn]
  simp only [Option.bind_some]
  unfold f_Ma_depth_l11
  refine loop_for (cN (prt w s r) (nS w (1 - s))) (fun j (x : Int32) => if h.1 39 j ≤ sp w s r then x else (if x < nI (thC w s r (h.1 39 j)) then nI (thC w s r (h.1 39 j)) else x)) (nI (thC w s r (sp w s r))) _ (fun i x hi => ?_) ?_
  · unfold f_Ma_depth_b11
    simp only [Nat.reduceAdd, M.2.2.1, M.1, if_neg (ngt hi (show cN (prt w s r) (nS w (1 - s)) ≤ 40 by omega)), if_pos (inb_nI (show i < 40 by omega) (show 40 < 2 ^ 31 by decide)), ix_nI (show i < 2 ^ 31 by omega), X_countAt M hn, Option.bind_some, nI_1]
    split <;> rfl
  · unfold f_Ma_depth_b11
    simp only [M.2.2.1, if_pos (nle _)]
    rfl
set_option maxHeartbeats 400000 in
theorem last_start {w : Nat → Int32} {s r : Nat} {A : Int32} : ∀ n, (∃ k, k < n ∧ prt w s r k = true ∧ sp w (1 - s) k ≤ A) → ∃ k, k < n ∧ prt w s r k = true ∧ sp w (1 - s) k ≤ A ∧ ∀ j, j < n → prt w s r j = true → sp w (1 - s) j ≤ A → sp w (1 - s) j ≤ sp w (1 - s) k
  | 0, ⟨k, hk, _⟩ => by omega
  | n + 1, ⟨k, hk, hp, ha⟩ => by
    by_cases hx : ∃ k, k < n ∧ prt w s r k = true ∧ sp w (1 - s) k ≤ A
    · obtain ⟨i, hi, hpi, hai, hmax⟩ := last_start n hx
      by_cases hn : prt w s r n = true ∧ sp w (1 - s) n ≤ A ∧ sp w (1 - s) i ≤ sp w (1 - s) n
      · refine ⟨n, by omega, hn.1, hn.2.1, fun j hj hpj haj => ?_⟩
        rcases (show j < n ∨ j = n by omega) with h1 | rfl
        · exact Int32.le_trans (hmax j h1 hpj haj) hn.2.2
        · exact Int32.le_refl _
      · refine ⟨i, by omega, hpi, hai, fun j hj hpj haj => ?_⟩
        rcases (show j < n ∨ j = n by omega) with h1 | rfl
        · exact hmax j h1 hpj haj
        · rcases Int32.le_total (sp w (1 - s) i) (sp w (1 - s) j) with h2 | h2
          · exact absurd ⟨hpj, haj, h2⟩ hn
          · exact h2
    · have hkn : k = n := by
        rcases (show k < n ∨ k = n by omega) with h1 | h1
        · exact absurd ⟨k, h1, hp, ha⟩ hx
        · exact h1
      subst hkn
      refine ⟨k, by omega, hp, ha, fun j hj hpj haj => ?_⟩
      rcases (show j < k ∨ j = k by omega) with h1 | rfl
      · exact absurd ⟨j, h1, hpj, haj⟩ hx
      · exact Int32.le_refl _
set_option maxHeartbeats 400000 in
theorem depth_eq {w : Nat → Int32} (hW : w 1 &&& 2044 = w 1) {s r : Nat} (hs : s < 2) : dpM w s r = dpX w s r := by
  apply Nat.le_antisymm
  · refine (mxN_le _ _).mpr ⟨Nat.zero_le _, fun k hk hp => ?_⟩
    have hX := (mxN_le (p := fun k => prt w s r k && decide (¬ sp w (1 - s) k ≤ sp w s r)) (g := fun k => thC w s r (sp w (1 - s) k)) (X := dpX w s r) (nS w (1 - s)) (thC w s r (sp w s r))).mp (Nat.le_refl _)
    by_cases ha : sp w (1 - s) k ≤ sp w s r
    · refine Nat.le_trans (cN_imp _ (fun i hi h => ?_)) hX.1
      simp only [there, Bool.and_eq_true, decide_eq_true_eq] at h ⊢
      exact ⟨h.1, Int32.le_trans h.2.1 ha, (prt_share hW hs h.1).2⟩
    · exact hX.2 k hk (by simp [hp, ha])
  · have hM := (mxN_le (p := prt w s r) (g := fun k => thC w s r (sp w (1 - s) k)) (X := dpM w s r) (nS w (1 - s)) 0).mp (Nat.le_refl _)
    refine (mxN_le _ _).mpr ⟨?_, fun k hk hp => ?_⟩
    · by_cases hx : ∃ k, k < nS w (1 - s) ∧ prt w s r k = true ∧ sp w (1 - s) k ≤ sp w s r
      · obtain ⟨k, hk, hp, ha, hmax⟩ := last_start _ hx
        refine Nat.le_trans (cN_imp _ (fun i hi h => ?_)) (hM.2 k hk hp)
        simp only [there, Bool.and_eq_true, decide_eq_true_eq] at h ⊢
        exact ⟨h.1, hmax i hi h.1 h.2.1, Int32.lt_of_le_of_lt ha h.2.2⟩
      · have : thC w s r (sp w s r) = 0 := by
          rcases Nat.eq_zero_or_pos (thC w s r (sp w s r)) with h0 | h0
          · exact h0
          · exfalso
            have hne := (cN_pos _).mp h0
            cases hf : fstN (fun k => prt w s r k && there w (1 - s) k (sp w s r)) (nS w (1 - s)) with
            | none => exact hne hf
            | some i =>
              obtain ⟨a, b, -⟩ := fstN_some hf
              simp only [there, Bool.and_eq_true, decide_eq_true_eq] at b
              exact hx ⟨i, a, b.1, b.2.1⟩
        omega
    · simp only [Bool.and_eq_true] at hp
      exact hM.2 k hk hp.1
def keepX (h h' : HP) : Prop := ∀ a, a < 32 → h'.1 a = h.1 a
def keepM (m m' : HP) : Prop := m'.1 1 = m.1 1 ∧ m'.1 2 = m.1 2 ∧ m'.1 0 2 = m.1 0 2 ∧ m'.1 9 = m.1 9 ∧ m'.1 0 12 = m.1 0 12
set_option maxHeartbeats 400000 in
theorem keepX.rf {h : HP} : keepX h h := fun _ _ => rfl
set_option maxHeartbeats 400000 in
theorem keepM.rf {m : HP} : keepM m m := ⟨rfl, rfl, rfl, rfl, rfl⟩
set_option maxHeartbeats 400000 in
theorem fr.kX {L : List Nat} {h h' : HP} (F : fr L h h') (hL : ∀ a, a ∈ L → 32 ≤ a) : keepX h h' := fun a ha => F a (fun z => by have := hL a z; omega)
set_option maxHeartbeats 400000 in
theorem frM.kM {L J : List Nat} {m m' : HP} (F : frM L J m m') (h1 : 1 ∉ L) (h2 : 2 ∉ L) (h9 : 9 ∉ L) (j2 : 2 ∉ J) (j12 : 12 ∉ J) : keepM m m' := ⟨F.1 1 (by decide) h1, F.1 2 (by decide) h2, F.2 2 j2, F.1 9 (by decide) h9, F.2 12 j12⟩
set_option maxHeartbeats 400000 in
theorem keepX.tr {h h' h'' : HP} (a : keepX h h') (b : keepX h' h'') : keepX h h'' := fun x hx => (b x hx).trans (a x hx)
set_option maxHeartbeats 400000 in
theorem keepM.tr {m m' m'' : HP} (a : keepM m m') (b : keepM m' m'') : keepM m m'' := ⟨b.1.trans a.1, b.2.1.trans a.2.1, b.2.2.1.trans a.2.2.1, b.2.2.2.1.trans a.2.2.2.1, b.2.2.2.2.trans a.2.2.2.2⟩
/-- both answer alike and keep what counts -/
def Alike2 (h m : HP) (x y : Option (HP × Int32)) : Prop := ∃ h' m' r, x = some (h', r) ∧ y = some (m', r) ∧ keepX h h' ∧ keepM m m'
set_option maxHeartbeats 400000 in
theorem X_loc {h : HP} {w : Nat → Int32} {s r N : Nat} (P : PW h N (pcF w s r)) : f_TJ_countLeftOver 0 h = some (nI (cN (fun k => decide (lgB w s r (plc w s r k) = none)) N)) := by
  have hn := P.1
  rw [← cnst_cN]
  unfold f_TJ_countLeftOver f_TJ_countLeftOver_l4
  refine loop_for N (cnst (fun k => decide (lgB w s r (plc w s r k) = none))) 0 _ (fun i x hi => ?_) ?_
  · unfold f_TJ_countLeftOver_b4
    simp only [Nat.zero_add, P.2.1, if_neg (nI_ge hi (show N < 2 ^ 31 by omega)), X_pcell P hi (show 2 < 5 by omega) (v := 2) rfl, Option.bind_some, nI_1, cnst, decide_eq_true_eq, show pcF w s r i 2 = encO (lgB w s r (plc w s r i)) from rfl]
    cases hb : lgB w s r (plc w s r i) with
    | none => simp [encO]
    | some j =>
      have : ¬ nI j = -1 := by
        have hj := (lgI_some hb).1
        intro e
        have h0 := nI_toInt (n := j)
        by_cases hbig : j < 2 ^ 31
        · exact nI_m1 hbig e
        · exfalso
          have : nS w (1 - s) < 2 ^ 31 := by
            unfold nS ix
            have := Int32.toNatClampNeg_lt (w (2 + (1 - s)))
            omega
          omega
      simp [encO, this]
  · unfold f_TJ_countLeftOver_b4
    simp only [Nat.zero_add, P.2.1, if_pos (nle _)]
    rfl
