/-! the cover: reference and class come to it -/
set_option maxHeartbeats 400000 in
theorem M_longest {m : HP} {w : Nat → Int32} (hw : m.1 1 = w) (R : RowsOk w) {s r : Nat} (hs : s < 2) (hr : r < nS w s) (pl : Int32) : f_Mo_longest 0 m (nI s) (nI r) pl = some (encO (lgB w s r pl)) := by
  have hs' : 1 - s < 2 := by omega
  have hn := (R (1 - s) hs').2.1
  have hn2 := (R s hs).2.1
  unfold f_Mo_longest f_Mo_longest_l11
  rw [one_sub hs]
  refine loop_up (fun i => (encO (lgI w s r pl i), nI i)) (nS w (1 - s)) (fun i hi => ?_) ?_
  · have hlt : ∀ {j : Nat}, lgI w s r pl i = some j → j < i ∧ prt w s r j = true ∧ there w (1 - s) j pl = true := fun h => lgI_some h
    have e : lgI w s r pl (i + 1) = if prt w s r i then lgS w s pl i (lgI w s r pl i) else lgI w s r pl i := rfl
    unfold f_Mo_longest_b11
    simp only [if_pos (many_ix hs' rfl).1, (many_ix hs' rfl).2, Nat.zero_add, hw, (R (1 - s) hs').1, if_neg (ngt hi hn), M_prt (h := m) hs (show r < 40 by omega) (show i < 40 by omega), M_start (h := m) hs' (show i < 40 by omega) rfl rfl, M_end (h := m) hs' (show i < 40 by omega) rfl rfl, Option.bind_some, nI_1, e, lgS, there, Bool.and_eq_true, decide_eq_true_eq]
    by_cases hp : prt w s r i = true
    · simp only [if_pos hp, if_neg one0]
      by_cases a : sp w (1 - s) i ≤ pl
      · by_cases b : pl < ep w (1 - s) i
        · have ab : sp w (1 - s) i ≤ pl ∧ pl < ep w (1 - s) i := ⟨a, b⟩
          have na : ¬ pl < sp w (1 - s) i := Int32.not_lt.mpr a
          cases hb : lgI w s r pl i with
          | none => simp only [if_neg na, if_pos b, if_pos ab, encO, if_true]
          | some j =>
            have hj := (hlt hb).1
            have hne : ¬ nI j = -1 := nI_m1 (by omega)
            simp only [if_neg na, if_pos b, if_pos ab, encO, if_neg hne, M_end (h := m) hs' (show j < 40 by omega) rfl rfl, hw, Option.bind_some]
            split <;> rfl
        · have ab : ¬ (sp w (1 - s) i ≤ pl ∧ pl < ep w (1 - s) i) := fun z => b z.2
          have na : ¬ pl < sp w (1 - s) i := Int32.not_lt.mpr a
          simp only [if_neg na, if_neg b, if_neg ab]
      · have ab : ¬ (sp w (1 - s) i ≤ pl ∧ pl < ep w (1 - s) i) := fun z => a z.1
        have na : pl < sp w (1 - s) i := Int32.not_le.mp a
        simp only [if_pos na, if_neg ab]
    · simp only [if_neg hp, if_true]
  · unfold f_Mo_longest_b11
    simp only [if_pos (many_ix hs' rfl).1, (many_ix hs' rfl).2, Nat.zero_add, hw, (R (1 - s) hs').1, if_pos (nle _)]
    rfl
set_option maxHeartbeats 400000 in
theorem M_nextStart {m : HP} {w : Nat → Int32} (hw : m.1 1 = w) (R : RowsOk w) {s r : Nat} (hs : s < 2) (hr : r < nS w s) (pl : Int32) : f_Mo_nextStart 0 m (nI s) (nI r) pl = some (nxI w s r pl (nS w (1 - s))) := by
  have hs' : 1 - s < 2 := by omega
  have hn := (R (1 - s) hs').2.1
  have hn2 := (R s hs).2.1
  unfold f_Mo_nextStart f_Mo_nextStart_l16
  rw [one_sub hs, M_end (h := m) hs (show r < 40 by omega) rfl rfl, hw]
  simp only [Option.bind_some]
  refine loop_for (nS w (1 - s)) (fun k x => if prt w s r k then nxT w s pl k x else x) (ep w s r) _ (fun i x hi => ?_) ?_
  · unfold f_Mo_nextStart_b16
    simp only [if_pos (many_ix hs' rfl).1, (many_ix hs' rfl).2, Nat.zero_add, hw, (R (1 - s) hs').1, if_neg (ngt hi hn), M_prt (h := m) hs (show r < 40 by omega) (show i < 40 by omega), M_start (h := m) hs' (show i < 40 by omega) rfl rfl, M_less, Option.bind_some, nI_1, nxT]
    by_cases hp : prt w s r i = true
    · simp only [if_pos hp, if_neg one0]
      split <;> rfl
    · simp only [if_neg hp, if_true]
  · unfold f_Mo_nextStart_b16
    simp only [if_pos (many_ix hs' rfl).1, (many_ix hs' rfl).2, Nat.zero_add, hw, (R (1 - s) hs').1, if_pos (nle _)]
    rfl
/-- the reference's own scratch: its object is cell 0; L: the arrays that may change, J: the places of cell 0 that may -/
def frM (L J : List Nat) (m m' : HP) : Prop := (∀ a, a ≠ 0 → a ∉ L → m'.1 a = m.1 a) ∧ ∀ j, j ∉ J → m'.1 0 j = m.1 0 j
set_option maxHeartbeats 400000 in
theorem frM.rf {L J : List Nat} {m : HP} : frM L J m m := ⟨fun _ _ _ => rfl, fun _ _ => rfl⟩
set_option maxHeartbeats 400000 in
theorem frM.tr {L J : List Nat} {m m' m'' : HP} (x : frM L J m m') (y : frM L J m' m'') : frM L J m m'' := ⟨fun a h1 h2 => (y.1 a h1 h2).trans (x.1 a h1 h2), fun j hj => (y.2 j hj).trans (x.2 j hj)⟩
set_option maxHeartbeats 400000 in
theorem frM.mono {L J L' J' : List Nat} {m m' : HP} (x : frM L J m m') (h1 : ∀ a, a ∈ L → a ∈ L') (h2 : ∀ a, a ∈ J → a ∈ J') : frM L' J' m m' := ⟨fun a ha hb => x.1 a ha (fun z => hb (h1 a z)), fun j hj => x.2 j (fun z => hj (h2 j z))⟩
set_option maxHeartbeats 400000 in
theorem frM.up {L J : List Nat} {m : HP} {c : Nat} (j : Nat) (v : Int32) (hc : c ∈ L) (h0 : c ≠ 0) : frM L J m (upI m c j v) := ⟨fun a _ ha => by
  funext b; exact upI_ne m j b v (fun e => ha (e ▸ hc)), fun k _ => upI_ne m j k v (Ne.symm h0)⟩
set_option maxHeartbeats 400000 in
theorem frM.up0 {L J : List Nat} {m : HP} {j : Nat} (v : Int32) (hj : j ∈ J) : frM L J m (upI m 0 j v) := ⟨fun a ha _ => by
  funext b; exact upI_ne m j b v ha, fun k hk => by rw [upI_s, if_neg (fun e : k = j => hk (e ▸ hj))]⟩
/-- the cover as the reference lays it -/
def CVM (m : HP) (w : Nat → Int32) (s r i : Nat) : Prop := m.1 0 6 = nI i ∧ ∀ k, k < i → m.1 3 k = plc w s r k ∧ m.1 4 k = plc w s r (k + 1) ∧ m.1 5 k = encO (lgB w s r (plc w s r k))
set_option maxHeartbeats 400000 in
theorem M_adds {m : HP} {w : Nat → Int32} {s r i : Nat} (C : CVM m w s r i) (hi : i < 200) : ∃ m', f_Mo_adds 0 m (plc w s r i) (plc w s r (i + 1)) (encO (lgB w s r (plc w s r i))) = some m' ∧ CVM m' w s r (i + 1) ∧ frM [3, 4, 5] [6] m m' := by
  have hb : inb (nI i) 200 := inb_nI hi (by decide)
  unfold f_Mo_adds
  simp only [Nat.zero_add, C.1, if_pos hb, ix_nI (show i < 2 ^ 31 by omega), upI_ne _ _ _ _ (show (0 : Nat) ≠ 3 by decide), upI_ne _ _ _ _ (show (0 : Nat) ≠ 4 by decide), upI_ne _ _ _ _ (show (0 : Nat) ≠ 5 by decide), nI_1]
  refine ⟨_, rfl, ⟨by simp [upI], fun k hk => ?_⟩, ?_⟩
  · rcases (show k < i ∨ k = i by omega) with h1 | rfl
    · have hne : k ≠ i := by omega
      obtain ⟨a, b, c⟩ := C.2 k h1
      simp [upI, hne, a, b, c]
    · simp [upI]
  · exact ((frM.up _ _ (by decide) (by decide)).tr (frM.up _ _ (by decide) (by decide))).tr ((frM.up _ _ (by decide) (by decide)).tr (frM.up0 _ (by decide)))
set_option maxHeartbeats 400000 in
theorem M_covers {m : HP} {w : Nat → Int32} (hw : m.1 1 = w) (R : RowsOk w) {s r N : Nat} (hs : s < 2) (hr : r < nS w s) (hN : N ≤ 81) (h1 : ∀ k, k < N → plc w s r k < ep w s r) (h2 : ep w s r ≤ plc w s r N) : ∃ m', f_Mo_covers 0 m (nI s) (nI r) = some m' ∧ CVM m' w s r N ∧ frM [3, 4, 5] [6] m m' := by
  have hn2 := (R s hs).2.1
  have hs' : 1 - s < 2 := by omega
  have hn := (R (1 - s) hs').2.1
  have F0 : frM [3, 4, 5] [6] m (upI m 0 6 0) := frM.up0 _ (by decide)
  have hw0 : (upI m 0 6 0).1 1 = w := by rw [F0.1 1 (by decide) (by decide)]; exact hw
  unfold f_Mo_covers
  rw [M_start hs (show r < 40 by omega) rfl rfl, M_end hs (show r < 40 by omega) rfl rfl, hw0]
  simp only [Option.bind_some]
  unfold f_Mo_covers_l20
  refine loop_inv (fun i (x : HP × Int32) => x.2 = plc w s r i ∧ CVM x.1 w s r i ∧ frM [3, 4, 5] [6] m x.1) N _ ?_ ?_ _ ?_
  · rintro i ⟨hp, v3⟩ hi ⟨e6, C, F⟩
    replace e6 : v3 = plc w s r i := e6
    replace C : CVM hp w s r i := C
    replace F : frM [3, 4, 5] [6] m hp := F
    subst e6
    have hwi : hp.1 1 = w := by rw [F.1 1 (by decide) (by decide)]; exact hw
    obtain ⟨m', e, C', F'⟩ := M_adds C (by omega)
    refine ⟨(m', plc w s r (i + 1)), ?_, rfl, C', F.tr F'⟩
    unfold f_Mo_covers_b20 f_Mo_covers_j65
    have hlt := h1 i hi
    simp only [if_neg (Int32.not_le.mpr hlt), M_longest hwi R hs hr, Option.bind_some]
    have en : plc w s r (i + 1) = nxt w s r (plc w s r i) := rfl
    cases hb : lgB w s r (plc w s r i) with
    | none =>
      have e2 : nxI w s r (plc w s r i) (nS w (1 - s)) = plc w s r (i + 1) := by rw [en]; unfold nxt; rw [hb]
      rw [hb] at e
      simp only [encO, if_true, M_nextStart hwi R hs hr, Option.bind_some, e2]
      simp only [encO] at e
      rw [e]; rfl
    | some j =>
      have hj := (lgI_some hb).1
      have hne : ¬ nI j = -1 := nI_m1 (by omega)
      have e2 : (if ep w (1 - s) j < ep w s r then ep w (1 - s) j else ep w s r) = plc w s r (i + 1) := by rw [en]; unfold nxt; rw [hb]
      rw [hb] at e
      simp only [encO, if_neg hne, one_sub hs, M_end (h := hp) hs' (show j < 40 by omega) rfl rfl, hwi, M_less, Option.bind_some, e2]
      simp only [encO] at e
      rw [e]; rfl
  · rintro ⟨hp, v3⟩ ⟨e6, C, F⟩
    replace e6 : v3 = plc w s r N := e6
    subst e6
    refine ⟨hp, ?_, C, F⟩
    unfold f_Mo_covers_b20
    simp only [if_pos h2]
    rfl
  · exact ⟨rfl, ⟨by simp [upI]; rfl, fun k hk => by omega⟩, F0⟩
/-- Parts at cell 34 -/
def PW (h : HP) (n : Nat) (F : Nat → Nat → Int32) : Prop := n ≤ 160 ∧ h.1 34 2 = nI n ∧ ∀ k, k < n → ∀ j, j < 5 → h.1 35 (k * 5 + j) = F k j
def cel (a b c d e : Int32) (j : Nat) : Int32 := if j = 0 then a else if j = 1 then b else if j = 2 then c else if j = 3 then d else e
set_option maxHeartbeats 400000 in
theorem PW.fr {L : List Nat} {h h' : HP} {n : Nat} {F : Nat → Nat → Int32} (P : PW h n F) (Fr : fr L h h') (h1 : 34 ∉ L) (h2 : 35 ∉ L) : PW h' n F := by
  unfold PW; rw [Fr 34 h1, Fr 35 h2]; exact P
set_option maxHeartbeats 400000 in
theorem X_pempty (h : HP) (F : Nat → Nat → Int32) : ∃ h', f_Pa_empty 34 h = some h' ∧ PW h' 0 F ∧ fr [34, 35] h h' := ⟨_, rfl, ⟨by omega, by simp [upI]; rfl, fun k hk => by omega⟩, fr.up _ _ (by decide)⟩
set_option maxHeartbeats 400000 in
theorem X_pput {h : HP} {n : Nat} {F : Nat → Nat → Int32} (P : PW h n F) (hn : n < 160) (a b c d e : Int32) : ∃ h', f_Pa_put 34 h a b c d e = some h' ∧ PW h' (n + 1) (fun k j => if k = n then cel a b c d e j else F k j) ∧ fr [34, 35] h h' := by
  have e0 : nI n * 5 = nI (n * 5) := by rw [← pk_mul]; rfl
  have e1 : nI (n * 5) + 1 = nI (n * 5 + 1) := nI_1 _
  have e2 : nI (n * 5) + 2 = nI (n * 5 + 2) := by rw [← nI_add]; rfl
  have e3 : nI (n * 5) + 3 = nI (n * 5 + 3) := by rw [← nI_add]; rfl
  have e4 : nI (n * 5) + 4 = nI (n * 5 + 4) := by rw [← nI_add]; rfl
  have b0 : inb (nI (n * 5)) 800 := inb_nI (by omega) (by decide)
  have b1 : inb (nI (n * 5 + 1)) 800 := inb_nI (by omega) (by decide)
  have b2 : inb (nI (n * 5 + 2)) 800 := inb_nI (by omega) (by decide)
  have b3 : inb (nI (n * 5 + 3)) 800 := inb_nI (by omega) (by decide)
  have b4 : inb (nI (n * 5 + 4)) 800 := inb_nI (by omega) (by decide)
  unfold f_Pa_put
  simp only [Nat.reduceAdd, P.2.1, if_neg (show ¬ (160 : Int32) ≤ nI n from nI_ge (b := 160) hn (by decide)), e0, e1, e2, e3, e4, if_pos b0, if_pos b1, if_pos b2, if_pos b3, if_pos b4, ix_nI (show n * 5 < 2 ^ 31 by omega), ix_nI (show n * 5 + 1 < 2 ^ 31 by omega), ix_nI (show n * 5 + 2 < 2 ^ 31 by omega), ix_nI (show n * 5 + 3 < 2 ^ 31 by omega), ix_nI (show n * 5 + 4 < 2 ^ 31 by omega), upI_ne _ _ _ _ (show (34 : Nat) ≠ 35 by decide), nI_1]
  refine ⟨_, rfl, ⟨by omega, by simp [upI], fun k hk j hj => ?_⟩, ?_⟩
  · rcases (show k < n ∨ k = n by omega) with h1 | rfl
    · simp only [if_neg (show ¬ k = n by omega)]
      rw [← P.2.2 k h1 j hj]
      rw [upI_ne _ _ _ _ (show (35 : Nat) ≠ 34 by decide)]
      simp only [upI_s]
      rw [if_neg (by omega), if_neg (by omega), if_neg (by omega), if_neg (by omega), if_neg (by omega)]
    · simp only [if_true]
      rw [upI_ne _ _ _ _ (show (35 : Nat) ≠ 34 by decide)]
      simp only [upI_s, cel]
      rcases (show j = 0 ∨ j = 1 ∨ j = 2 ∨ j = 3 ∨ j = 4 by omega) with rfl | rfl | rfl | rfl | rfl <;> simp
  · exact ((((fr.up _ _ (by decide)).tr (fr.up _ _ (by decide))).tr (fr.up _ _ (by decide))).tr (fr.up _ _ (by decide))).tr ((fr.up _ _ (by decide)).tr (fr.up _ _ (by decide)))
set_option maxHeartbeats 400000 in
theorem X_pcell {h : HP} {n : Nat} {F : Nat → Nat → Int32} (P : PW h n F) {k j : Nat} (hk : k < n) (hj : j < 5) {v : Int32} (ev : v = nI j) : f_Pa_cell 34 h (nI k) v = some (F k j) := by
  have hn := P.1
  subst ev
  have e0 : nI k * 5 + nI j = nI (k * 5 + j) := by rw [← nI_add, ← pk_mul]; rfl
  unfold f_Pa_cell f_Pa_cell_j26
  simp only [P.2.1, if_neg (nI_pos (show k < 2 ^ 31 by omega)), if_neg (nI_ge hk (show n < 2 ^ 31 by omega)), if_neg (nI_pos (show j < 2 ^ 31 by omega)), if_neg (show ¬ (5 : Int32) ≤ nI j from nI_ge (b := 5) hj (by decide)), if_neg one0, e0, if_pos (inb_nI (show k * 5 + j < 800 by omega) (show 800 < 2 ^ 31 by decide)), ix_nI (show k * 5 + j < 2 ^ 31 by omega)]
  rw [show 34 + 1 = 35 from rfl, P.2.2 k hk j hj]
set_option maxHeartbeats 400000 in
theorem X_pout {h : HP} {n : Nat} {F : Nat → Nat → Int32} (P : PW h n F) {v1 v2 : Int32} (hv : ¬ (0 ≤ v1 ∧ v1 < nI n ∧ 0 ≤ v2 ∧ v2 < 5)) : f_Pa_cell 34 h v1 v2 = some (-10000000) := by
  unfold f_Pa_cell f_Pa_cell_j26
  rw [P.2.1]
  simp only [if_true]
  grind
set_option maxHeartbeats 400000 in
theorem X_pans {h : HP} {n : Nat} {F : Nat → Nat → Int32} (P : PW h n F) (v1 v2 : Int32) {c : Nat} (hc : c ≤ 5) {vc : Int32} (ec : vc = nI c) : (∃ k j, k < n ∧ j < c ∧ v1 = nI k ∧ v2 = nI j ∧ f_Pa_answer 34 h v1 v2 vc = some (F k j)) ∨ (¬ (0 ≤ v1 ∧ v1 < nI n ∧ 0 ≤ v2 ∧ v2 < nI c) ∧ f_Pa_answer 34 h v1 v2 vc = some (-10000000)) := by
  have hn := P.1
  subst ec
  unfold f_Pa_answer
  by_cases h2 : nI c ≤ v2
  · right
    refine ⟨fun z => absurd h2 (Int32.not_le.mpr z.2.2.2), by rw [if_pos h2]⟩
  · rw [if_neg h2]
    have hlt := Int32.not_le.mp h2
    by_cases hv : 0 ≤ v1 ∧ v1 < nI n ∧ 0 ≤ v2
    · left
      obtain ⟨k, hk, rfl⟩ := nI_of (x := v1) (Int32.not_lt.mpr hv.1)
      obtain ⟨j, hj, rfl⟩ := nI_of (x := v2) (Int32.not_lt.mpr hv.2.2)
      have hk' := (nI_ltI hk (by omega)).mp hv.2.1
      have hj' := (nI_ltI hj (by omega)).mp hlt
      refine ⟨k, j, hk', hj', rfl, rfl, ?_⟩
      rw [X_pcell P hk' (by omega) rfl]; rfl
    · right
      refine ⟨fun z => hv ⟨z.1, z.2.1, z.2.2.1⟩, ?_⟩
      rw [X_pout P (fun z => hv ⟨z.1, z.2.1, z.2.2.1⟩)]; rfl
