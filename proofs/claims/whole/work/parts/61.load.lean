/-! add, load: whether a row may come -/
set_option maxHeartbeats 400000 in
theorem loop_dn {T : Type} {body : Int32 → Option (Int32 ⊕ T)} (n : Nat) (p : Nat → Bool) (t0 : T) (f : Nat → T) (hs : ∀ r, r < n → body (nI r) = if p r then some (.inr (f r)) else some (.inl (nI r + (-1)))) (he : body (-1) = some (.inr t0)) : loop body (nI n - 1) = some (match fstN (fun t => p (n - 1 - t)) n with | some t => f (n - 1 - t) | none => t0) := by
  have g : ∀ t, t < n → nI (n - t) - 1 = nI (n - 1 - t) := fun t ht => by rw [show n - t = n - 1 - t + 1 by omega]; exact nI_pred _
  have st : ∀ t, t < n → p (n - 1 - t) = false → body (nI (n - t) - 1) = some (.inl (nI (n - (t + 1)) - 1)) := fun t ht hp => by
    rw [g t ht, hs _ (by omega), hp, Int32.sub_eq_add_neg, show n - (t + 1) = n - 1 - t by omega]; rfl
  cases hf : fstN (fun t => p (n - 1 - t)) n with
  | none =>
    have h0 := fstN_no hf
    refine loop_up (fun t => nI (n - t) - 1) n (fun t ht => st t ht (h0 t ht)) ?_
    show body (nI (n - n) - 1) = _
    rw [Nat.sub_self, show (nI 0 - 1 : Int32) = -1 by decide]; exact he
  | some k =>
    obtain ⟨h1, h2, h3⟩ := fstN_some hf
    refine loop_up (fun t => nI (n - t) - 1) k (fun t ht => st t (by omega) (h3 t ht)) ?_
    show body (nI (n - k) - 1) = _
    rw [g k h1, hs _ (by omega), h2]; rfl
def lsO (w : Nat → Int32) (s : Nat) (run : Int32) : Option Nat := fstN (fun t => decide (fld w s (nS w s - 1 - t) 0 = run)) (nS w s)
set_option maxHeartbeats 400000 in
theorem X_lastStart {h : HP} {cc : Nat} {w : Nat → Int32} {s : Nat} (V : RV h cc w s (nS w s)) (run : Int32) : f_Ro_lastStart cc h run = some (match lsO w s run with | some t => fld w s (nS w s - 1 - t) 2 | none => -1000000) := by
  have hn := V.1
  unfold f_Ro_lastStart f_Ro_lastStart_l7 lsO
  rw [V.2.1]
  refine loop_dn (nS w s) (fun r => decide (fld w s r 0 = run)) (-1000000) (fun r => fld w s r 2) (fun r hr => ?_) ?_
  · unfold f_Ro_lastStart_b7
    rw [if_neg (nI_pos (by omega)), if_pos (inb_nI (show r < 40 by omega) (by decide)), ix_nI (by omega), (V.2.2 r hr).1, (V.2.2 r hr).2.2.1]
    simp only [decide_eq_true_eq]
    by_cases z : fld w s r 0 = run
    · rw [if_pos z, if_pos z, if_pos (inb_nI (show r < 40 by omega) (by decide))]; rfl
    · rw [if_neg z, if_neg z]
  · unfold f_Ro_lastStart_b7
    rw [if_pos (by decide)]; rfl
set_option maxHeartbeats 400000 in
theorem M_order {m : HP} {w : Nat → Int32} (hw : m.1 1 = w) (R : RowsOk w) {s : Nat} (hs : s < 2) (run st : Int32) : f_Mo_orderTrouble 0 m (nI s) run st = some (match lsO w s run with | some t => (if fld w s (nS w s - 1 - t) 2 ≤ st then 0 else fld w s (nS w s - 1 - t) 2 - st) | none => 0) := by
  have hn := (R s hs).2.1
  unfold f_Mo_orderTrouble f_Mo_orderTrouble_l12 lsO
  rw [if_pos (many_ix hs rfl).1, (many_ix hs rfl).2, Nat.zero_add, hw, (R s hs).1]
  refine loop_dn (nS w s) (fun r => decide (fld w s r 0 = run)) 0 (fun r => if fld w s r 2 ≤ st then 0 else fld w s r 2 - st) (fun r hr => ?_) ?_
  · unfold f_Mo_orderTrouble_b12
    rw [if_neg (nI_pos (by omega)), M_of (h := m) hs (show r < 40 by omega) (k := 0) (v3 := 0) (by omega) rfl rfl rfl, M_of (h := m) hs (show r < 40 by omega) (k := 2) (v3 := 2) (by omega) rfl rfl rfl, hw]
    simp only [Option.bind_some, decide_eq_true_eq]
    by_cases z : fld w s r 0 = run
    · rw [if_pos z, if_pos z]
      split <;> rfl
    · rw [if_neg z, if_neg z]
  · unfold f_Mo_orderTrouble_b12
    rw [if_pos (by decide)]; rfl
def spnF (v0 v1 : Int32) : Int32 := if v0 < -1000000 then 1 else if v0 ≤ 1000000 then (if v1 < -1000000 then 2 else if v1 ≤ 1000000 then (if v0 ≤ v1 then 0 else 3) else 2) else 1
set_option maxHeartbeats 400000 in
theorem X_span (v0 v1 : Int32) : f_Ro_spanFault v0 v1 = some (spnF v0 v1) := by
  unfold f_Ro_spanFault spnF; repeat' split
  all_goals rfl
set_option maxHeartbeats 400000 in
theorem M_span (v0 v1 : Int32) : f_Mo_spanTrouble v0 v1 = some (spnF v0 v1) := by
  unfold f_Mo_spanTrouble spnF
  rw [M_isIn, M_isIn]
  simp only [Option.bind_some]
  by_cases a : v0 < -1000000
  · rw [if_pos a, if_neg (show ¬ (-1000000 ≤ v0 ∧ v0 ≤ 1000000) from fun z => absurd z.1 (Int32.not_le.mpr a)), if_pos rfl]
  · rw [if_neg a]
    by_cases b : v0 ≤ 1000000
    · rw [if_pos b, if_pos (⟨Int32.not_lt.mp a, b⟩ : -1000000 ≤ v0 ∧ v0 ≤ 1000000), if_neg one0]
      by_cases c : v1 < -1000000
      · rw [if_pos c, if_neg (show ¬ (-1000000 ≤ v1 ∧ v1 ≤ 1000000) from fun z => absurd z.1 (Int32.not_le.mpr c)), if_pos rfl]
      · rw [if_neg c]
        by_cases d : v1 ≤ 1000000
        · rw [if_pos d, if_pos (⟨Int32.not_lt.mp c, d⟩ : -1000000 ≤ v1 ∧ v1 ≤ 1000000), if_neg one0]
          split <;> rfl
        · rw [if_neg d, if_neg (show ¬ (-1000000 ≤ v1 ∧ v1 ≤ 1000000) from fun z => d z.2), if_pos rfl]
    · rw [if_neg b, if_neg (show ¬ (-1000000 ≤ v0 ∧ v0 ≤ 1000000) from fun z => b z.2), if_pos rfl]
set_option maxHeartbeats 400000 in
theorem spn0 {v0 v1 : Int32} (h : spnF v0 v1 = 0) : -1000000 ≤ v0.toInt ∧ v0.toInt ≤ v1.toInt ∧ v1.toInt ≤ 1000000 := by
  unfold spnF at h
  by_cases a : v0 < -1000000
  · rw [if_pos a] at h; exact absurd h (by decide)
  · rw [if_neg a] at h
    by_cases b : v0 ≤ 1000000
    · rw [if_pos b] at h
      by_cases c : v1 < -1000000
      · rw [if_pos c] at h; exact absurd h (by decide)
      · rw [if_neg c] at h
        by_cases d : v1 ≤ 1000000
        · rw [if_pos d] at h
          by_cases e : v0 ≤ v1
          · have a := Int32.le_iff_toInt_le.mp (Int32.not_lt.mp a)
            have d := Int32.le_iff_toInt_le.mp d
            have e := Int32.le_iff_toInt_le.mp e
            exact ⟨a, e, d⟩
          · rw [if_neg e] at h; exact absurd h (by decide)
        · rw [if_neg d] at h; exact absurd h (by decide)
    · rw [if_neg b] at h; exact absurd h (by decide)
set_option maxHeartbeats 400000 in
theorem spn3 (v0 v1 : Int32) : spnF v0 v1 = 0 ∨ (spnF v0 v1 = 1 ∨ spnF v0 v1 = 2 ∨ spnF v0 v1 = 3) := by
  unfold spnF; repeat' split
  all_goals simp
set_option maxHeartbeats 400000 in
theorem X_because {h : HP} {n : Nat} (e : h.1 20 2 = nI n) (hn : n < 3) (v1 v2 : Int32) : ∃ h', f_Tr_because 20 h v1 v2 = some h' ∧ h'.1 20 2 = nI (n + 1) ∧ (∀ j, h'.1 21 j = if j = n then v1 else h.1 21 j) ∧ (∀ j, h'.1 22 j = if j = n then v2 else h.1 22 j) ∧ trX h h' := by
  unfold f_Tr_because
  have t1 : (upI h 21 n v1).1 20 2 = nI n := by rw [upI_ne _ _ _ _ (by decide)]; exact e
  have t2 : (upI (upI h 21 n v1) 22 n v2).1 20 2 = nI n := by rw [upI_ne _ _ _ _ (by decide)]; exact t1
  have b3 : inb (nI n) 3 := inb_nI hn (by decide)
  simp only [Nat.reduceAdd, e, ix_nI (show n < 2 ^ 31 by omega), t1, nI_1, if_pos b3, t2, if_neg (show ¬ (3 : Int32) ≤ nI n from nI_ge (b := 3) hn (by decide))]
  refine ⟨_, rfl, by rw [upI_s, if_pos rfl], fun j => ?_, fun j => ?_, fun a h1 h2 h3 => by rw [upI_at _ _ _ _ h1, upI_at _ _ _ _ h3, upI_at _ _ _ _ h2]⟩
  · rw [upI_ne _ _ _ _ (show 21 ≠ 20 by decide), upI_ne _ _ _ _ (show 21 ≠ 22 by decide), upI_s]
  · rw [upI_ne _ _ _ _ (show 22 ≠ 20 by decide), upI_s, upI_ne _ _ _ _ (show 22 ≠ 21 by decide)]
set_option maxHeartbeats 400000 in
theorem M_causes {m : HP} {n : Nat} (e : m.1 1 605 = nI n) (hn : n < 3) (v1 v2 : Int32) : ∃ m', f_Mo_causes 0 m v1 v2 = some m' ∧ m'.1 1 605 = nI (n + 1) ∧ (∀ i, m'.1 1 (606 + 2 * i) = if i = n then v1 else m.1 1 (606 + 2 * i)) ∧ (∀ i, m'.1 1 (606 + 2 * i + 1) = if i = n then v2 else m.1 1 (606 + 2 * i + 1)) ∧ trM m m' := by
  unfold f_Mo_causes
  have l1 : (606 : Int32) + 2 * nI n = nI (606 + 2 * n) := lin1 606 2 n
  have u1 : (upI m 1 (606 + 2 * n) v1).1 1 605 = nI n := by rw [upI_s, if_neg (by omega)]; exact e
  have u2 : (upI (upI m 1 (606 + 2 * n) v1) 1 (606 + 2 * n + 1) v2).1 1 605 = nI n := by rw [upI_s, if_neg (by omega)]; exact u1
  have b4 : inb (nI (606 + 2 * n)) 4100 := inb_nI (by omega) (by decide)
  have b5 : inb (nI (606 + 2 * n + 1)) 4100 := inb_nI (by omega) (by decide)
  simp only [Nat.zero_add, ix605, e, l1, ix_nI (show 606 + 2 * n < 2 ^ 31 by omega), u1, nI_1, if_pos b4, if_pos b5, ix_nI (show 606 + 2 * n + 1 < 2 ^ 31 by omega), u2]
  refine ⟨_, rfl, by rw [upI_s, if_pos rfl], fun i => ?_, fun i => ?_, ⟨fun a ha => by rw [upI_at _ _ _ _ ha, upI_at _ _ _ _ ha, upI_at _ _ _ _ ha], fun j hj => by rw [upI_s, if_neg (by omega), upI_s, if_neg (by omega), upI_s, if_neg (by omega)]⟩⟩
  · rw [upI_s, if_neg (by omega), upI_s, if_neg (by omega), upI_s]
    by_cases z : i = n
    · rw [if_pos z, if_pos (by omega)]
    · rw [if_neg z, if_neg (by omega)]
  · rw [upI_s, if_neg (by omega), upI_s]
    by_cases z : i = n
    · rw [if_pos z, if_pos (by omega)]
    · rw [if_neg z, if_neg (by omega), upI_s, if_neg (by omega)]
/-! the row comes -/
def cmM (m : HP) (s n : Nat) (v1 v2 v3 v4 v5 : Int32) : HP := upI (lyM m (4 + 5 * (40 * s + n)) v1 v2 v3 v4 v5) 1 (2 + s) (nI (n + 1))
section CM
variable {m : HP} {s n : Nat} {v1 v2 v3 v4 v5 : Int32}
set_option maxHeartbeats 400000 in
theorem cmr_fr {a : Nat} (ha : a ≠ 1) : (cmM m s n v1 v2 v3 v4 v5).1 a = m.1 a := by unfold cmM; rw [upI_at _ _ _ _ ha, lyM_fr ha]
set_option maxHeartbeats 400000 in
theorem cmr_out (hs : s < 2) (hn : n < 40) {j : Nat} (hj : 404 ≤ j ∨ j < 2) : (cmM m s n v1 v2 v3 v4 v5).1 1 j = m.1 1 j := by
  unfold cmM; rw [upI_s, if_neg (by omega), lyM_out (by omega)]
set_option maxHeartbeats 400000 in
theorem cmr_n (hs : s < 2) (hn : n < 40) : nS ((cmM m s n v1 v2 v3 v4 v5).1 1) s = n + 1 ∧ (cmM m s n v1 v2 v3 v4 v5).1 1 (2 + s) = nI (n + 1) := by
  have e : (cmM m s n v1 v2 v3 v4 v5).1 1 (2 + s) = nI (n + 1) := by unfold cmM; rw [upI_s, if_pos rfl]
  unfold nS; rw [e, ix_nI (by omega)]; exact ⟨rfl, rfl⟩
set_option maxHeartbeats 400000 in
theorem cmr_no (hs : s < 2) (hn : n < 40) {t : Nat} (ht : t < 2) (hts : t ≠ s) : nS ((cmM m s n v1 v2 v3 v4 v5).1 1) t = nS (m.1 1) t ∧ (cmM m s n v1 v2 v3 v4 v5).1 1 (2 + t) = m.1 1 (2 + t) := by
  have e : (cmM m s n v1 v2 v3 v4 v5).1 1 (2 + t) = m.1 1 (2 + t) := by unfold cmM; rw [upI_s, if_neg (by omega), lyM_out (by omega)]
  unfold nS; rw [e]; exact ⟨rfl, rfl⟩
set_option maxHeartbeats 400000 in
theorem cmr_old (hs : s < 2) (hn : n < 40) {t r k : Nat} (ht : t < 2) (hr : r < 40) (hk : k < 5) (ne : ¬ (t = s ∧ r = n)) : fld ((cmM m s n v1 v2 v3 v4 v5).1 1) t r k = fld (m.1 1) t r k := by
  unfold fld cmM
  rw [upI_s, if_neg (by omega), lyM_out (by omega)]
set_option maxHeartbeats 400000 in
theorem cmr_new (hs : s < 2) : fld ((cmM m s n v1 v2 v3 v4 v5).1 1) s n 0 = v1 ∧ fld ((cmM m s n v1 v2 v3 v4 v5).1 1) s n 1 = v2 ∧ fld ((cmM m s n v1 v2 v3 v4 v5).1 1) s n 2 = v3 ∧ fld ((cmM m s n v1 v2 v3 v4 v5).1 1) s n 3 = v4 ∧ fld ((cmM m s n v1 v2 v3 v4 v5).1 1) s n 4 = v5 := by
  unfold fld cmM
  refine ⟨?_, ?_, ?_, ?_, ?_⟩
  · rw [upI_s, if_neg (by omega), lyM_at, if_neg (by omega), if_neg (by omega), if_neg (by omega), if_neg (by omega), if_pos (by omega)]
  · rw [upI_s, if_neg (by omega), lyM_at, if_neg (by omega), if_neg (by omega), if_neg (by omega), if_pos rfl]
  · rw [upI_s, if_neg (by omega), lyM_at, if_neg (by omega), if_neg (by omega), if_pos rfl]
  · rw [upI_s, if_neg (by omega), lyM_at, if_neg (by omega), if_pos rfl]
  · rw [upI_s, if_neg (by omega), lyM_at, if_pos rfl]
set_option maxHeartbeats 400000 in
theorem cmr_grow (R : RowsOk (m.1 1)) (hs : s < 2) (hn : n < 40) (en : nS (m.1 1) s = n) : grow (m.1 1) ((cmM m s n v1 v2 v3 v4 v5).1 1) := by
  intro t ht
  have h40 := (R t ht).2.1
  by_cases z : t = s
  · subst z
    rw [(cmr_n hs hn).1, en]
    exact ⟨by omega, fun r k hr hk => cmr_old hs hn ht (by omega) hk (fun y => by omega)⟩
  · rw [(cmr_no hs hn ht z).1]
    exact ⟨Nat.le_refl _, fun r k hr hk => cmr_old hs hn ht (by omega) hk (fun y => z y.1)⟩
set_option maxHeartbeats 400000 in
theorem cmr_rows (R : RowsOk (m.1 1)) (hs : s < 2) (hn : n < 40) (en : nS (m.1 1) s = n) (c1 : 0 ≤ v1 ∧ v1 ≤ 3) (c2 : 0 ≤ v2 ∧ v2 ≤ 9) (c3 : spnF v3 v4 = 0) : RowsOk ((cmM m s n v1 v2 v3 v4 v5).1 1) := by
  intro t ht
  have h40 := (R t ht).2.1
  by_cases z : t = s
  · subst z
    rw [(cmr_n hs hn).1, (cmr_n hs hn).2]
    refine ⟨rfl, by omega, fun r hr => ?_⟩
    unfold RowOk
    by_cases y : r = n
    · subst y
      rw [(cmr_new hs).1, (cmr_new hs).2.1, (cmr_new hs).2.2.1, (cmr_new hs).2.2.2.1]
      exact ⟨c1, c2, spn0 c3⟩
    · rw [cmr_old hs hn ht (by omega) (by omega) (fun u => y u.2), cmr_old hs hn ht (by omega) (by omega) (fun u => y u.2), cmr_old hs hn ht (by omega) (by omega) (fun u => y u.2), cmr_old hs hn ht (by omega) (by omega) (fun u => y u.2)]
      exact (R t ht).2.2 r (by omega)
  · rw [(cmr_no hs hn ht z).1, (cmr_no hs hn ht z).2]
    refine ⟨(R t ht).1, h40, fun r hr => ?_⟩
    unfold RowOk
    rw [cmr_old hs hn ht (by omega) (by omega) (fun u => z u.1), cmr_old hs hn ht (by omega) (by omega) (fun u => z u.1), cmr_old hs hn ht (by omega) (by omega) (fun u => z u.1), cmr_old hs hn ht (by omega) (by omega) (fun u => z u.1)]
    exact (R t ht).2.2 r hr
set_option maxHeartbeats 400000 in
theorem cmr_sv {h : HP} (V : SV h 1 (m.1 1)) (R : RowsOk (m.1 1)) (hs : s < 2) (hn : n < 40) (en : nS (m.1 1) s = n) : SV (apH h (rc 1 s) n v1 v2 v3 v4 v5) 1 ((cmM m s n v1 v2 v3 v4 v5).1 1) := by
  have g := cmr_grow (v1 := v1) (v2 := v2) (v3 := v3) (v4 := v4) (v5 := v5) R hs hn en
  have hrc : rc 1 s = 2 + 6 * s := by unfold rc; split <;> omega
  have main : RV (apH h (rc 1 s) n v1 v2 v3 v4 v5) (rc 1 s) ((cmM m s n v1 v2 v3 v4 v5).1 1) s (nS ((cmM m s n v1 v2 v3 v4 v5).1 1) s) := by
    rw [(cmr_n hs hn).1]
    refine ⟨by omega, apH_c, fun r hr => ?_⟩
    rw [apH_1, apH_2, apH_3, apH_4, apH_5]
    by_cases y : r = n
    · subst y
      simp only [if_true]
      rw [(cmr_new hs).1, (cmr_new hs).2.1, (cmr_new hs).2.2.1, (cmr_new hs).2.2.2.1, (cmr_new hs).2.2.2.2]
      exact ⟨rfl, rfl, rfl, rfl, rfl⟩
    · simp only [if_neg y]
      rw [cmr_old hs hn hs (by omega) (by omega) (fun u => y u.2), cmr_old hs hn hs (by omega) (by omega) (fun u => y u.2), cmr_old hs hn hs (by omega) (by omega) (fun u => y u.2), cmr_old hs hn hs (by omega) (by omega) (fun u => y u.2), cmr_old hs hn hs (by omega) (by omega) (fun u => y u.2)]
      exact (V.rv hs).2.2 r (by omega)
  have oth : ∀ t, t < 2 → t ≠ s → RV (apH h (rc 1 s) n v1 v2 v3 v4 v5) (rc 1 t) ((cmM m s n v1 v2 v3 v4 v5).1 1) t (nS ((cmM m s n v1 v2 v3 v4 v5).1 1) t) := fun t ht ne => by
    have hrt : rc 1 t = 2 + 6 * t := by unfold rc; split <;> omega
    rw [(cmr_no hs hn ht ne).1]
    exact ((V.rv ht).cgh (fun a h1 h2 => apH_fr (by omega))).cgw ht (fun r k hr hk => (g t ht).2 r k hr hk)
  refine ⟨?_, ?_, ?_, ?_⟩
  · rw [apH_fr (by omega), cmr_out hs hn (by omega)]; exact V.1
  · rw [apH_fr (by omega), cmr_out hs hn (by omega)]; exact V.2.1
  · by_cases z : s = 0
    · subst z; exact main
    · exact oth 0 (by omega) (by omega)
  · by_cases z : s = 1
    · subst z; exact main
    · exact oth 1 (by omega) (by omega)
end CM
