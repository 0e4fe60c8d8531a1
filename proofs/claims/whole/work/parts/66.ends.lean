/-! starts and ends of the reference; ends of the class -/
set_option maxHeartbeats 400000 in
theorem prt_cg {w w' : Nat → Int32} (e : ∀ j, j < 404 → w' j = w j) {s r o : Nat} (hs : s < 2) (hr : r < 40) (ho : o < 40) : prt w' s r o = prt w s r o := by
  have e2 : ∀ j, 2 ≤ j → j < 404 → w' j = w j := fun j _ h => e j h
  have pp : ∀ l q, l < 40 → q < 40 → part w' l q = part w l q := fun l q hl hq => by
    unfold part sp ep
    rw [e 0 (by omega), e 1 (by omega), fld_cg e2 (show 0 < 2 by omega) hl (show 1 < 5 by omega), fld_cg e2 (show 1 < 2 by omega) hq (show 1 < 5 by omega), fld_cg e2 (show 0 < 2 by omega) hl (show 2 < 5 by omega), fld_cg e2 (show 0 < 2 by omega) hl (show 3 < 5 by omega), fld_cg e2 (show 1 < 2 by omega) hq (show 2 < 5 by omega), fld_cg e2 (show 1 < 2 by omega) hq (show 3 < 5 by omega)]
  unfold prt
  by_cases z : s = 0
  · rw [if_pos z, if_pos z]; exact pp r o hr ho
  · rw [if_neg z, if_neg z]; exact pp o r ho hr
section SM
variable {m : HP} {w : Nat → Int32} {s r a b np : Nat} {Aq P : Nat → Nat}
/-- the reference's pairs -/
def PM (w : Nat → Int32) (np : Nat) (P : Nat → Nat) : Prop := w 863 = nI np ∧ ∀ i, i < np → w (864 + 2 * i) = nI (P i / 40) ∧ w (864 + 2 * i + 1) = nI (P i % 40)
set_option maxHeartbeats 400000 in
theorem M_starts (hs : s < 2) (hr : r < 40) (ha : a ≤ 40) (hb : b < 40) (e1 : m.1 1 (781 + (1 - s)) = nI a) (e2 : ∀ i, i < a → m.1 1 (783 + 40 * (1 - s) + i) = nI (Aq i) ∧ Aq i < 40) (e5 : m.1 1 (781 + s) = nI b) (hP : PM (m.1 1) np P) (hnp : np + a ≤ 1600) : ∃ m' : HP, f_Mo_starts 0 m (nI s) (nI r) = some m' ∧ (∀ c, c ≠ 1 → m'.1 c = m.1 c) ∧ (∀ j, (j < 781 ∨ 4064 ≤ j) → m'.1 1 j = m.1 1 j) ∧ (∀ j, 781 ≤ j → j < 783 → m'.1 1 j = if j = 781 + s then nI (b + 1) else m.1 1 j) ∧ (∀ j, 783 ≤ j → j < 863 → m'.1 1 j = if j = 783 + 40 * s + b then nI r else m.1 1 j) ∧ PM (m'.1 1) (np + cN (fun i => prt (m.1 1) s r (Aq i)) a) (pfP (fun i => prt (m.1 1) s r (Aq i)) (pcod s r Aq) np P a) := by
  unfold f_Mo_starts f_Mo_starts_l7
  rw [one_sub hs]
  refine loop_inv (body := fun x : HP × Int32 => f_Mo_starts_b7 0 x.1 (nI s) (nI r) (nI (1 - s)) x.2) (fun t x => ∃ m' : HP, x = (m', nI t) ∧ (∀ c, c ≠ 1 → m'.1 c = m.1 c) ∧ (∀ j, (j < 863 ∨ 4064 ≤ j) → m'.1 1 j = m.1 1 j) ∧ PM (m'.1 1) (np + cN (fun i => prt (m.1 1) s r (Aq i)) t) (pfP (fun i => prt (m.1 1) s r (Aq i)) (pcod s r Aq) np P t)) a (fun m' => (∀ c, c ≠ 1 → m'.1 c = m.1 c) ∧ (∀ j, (j < 781 ∨ 4064 ≤ j) → m'.1 1 j = m.1 1 j) ∧ (∀ j, 781 ≤ j → j < 783 → m'.1 1 j = if j = 781 + s then nI (b + 1) else m.1 1 j) ∧ (∀ j, 783 ≤ j → j < 863 → m'.1 1 j = if j = 783 + 40 * s + b then nI r else m.1 1 j) ∧ PM (m'.1 1) (np + cN (fun i => prt (m.1 1) s r (Aq i)) a) (pfP (fun i => prt (m.1 1) s r (Aq i)) (pcod s r Aq) np P a)) (fun t x ht hI => ?_) (fun x hI => ?_) (m, 0) ⟨m, rfl, fun _ _ => rfl, fun _ _ => rfl, hP⟩
  · obtain ⟨m', rfl, f1, f2, f3⟩ := hI
    have cl := cN_le (fun i => prt (m.1 1) s r (Aq i)) t
    obtain ⟨x1, x2⟩ := e2 t ht
    have ep := M_prt (h := m') hs hr x2
    rw [prt_cg (w := m.1 1) (fun j hj => f2 j (by omega)) hs hr x2] at ep
    have l1 : (781 : Int32) + nI (1 - s) = nI (781 + (1 - s)) := nI_add 781 _
    have l2 : (783 : Int32) + 40 * nI (1 - s) + nI t = nI (783 + 40 * (1 - s) + t) := by rw [show (783 : Int32) + 40 * nI (1 - s) = nI (783 + 40 * (1 - s)) from lin1 783 40 _, nI_add]
    show ∃ s', f_Mo_starts_b7 0 m' (nI s) (nI r) (nI (1 - s)) (nI t) = some (Sum.inl s') ∧ _
    unfold f_Mo_starts_b7 f_Mo_activeAt
    simp only [Option.bind_some, Nat.zero_add, ix863]
    rw [l1, l2, if_pos (inb_nI (show 781 + (1 - s) < 4100 by omega) (by decide)), ix_nI (show 781 + (1 - s) < 2 ^ 31 by omega), f2 (781 + (1 - s)) (by omega), e1, if_neg (nI_ge ht (by omega)), if_pos (inb_nI (show 783 + 40 * (1 - s) + t < 4100 by omega) (by decide)), ix_nI (show 783 + 40 * (1 - s) + t < 2 ^ 31 by omega), f2 (783 + 40 * (1 - s) + t) (by omega), x1, ep, nI_1]
    simp only [Option.bind_some]
    generalize hn : cN (fun i => prt (m.1 1) s r (Aq i)) t = cc at *
    by_cases z : prt (m.1 1) s r (Aq t) = true
    · have cn : cN (fun i => prt (m.1 1) s r (Aq i)) (t + 1) = cc + 1 := by simp only [cN, z, if_true, hn]
      rw [if_pos z, if_neg one0, f3.1]
      have l3 : (864 : Int32) + 2 * nI (np + cc) = nI (864 + 2 * (np + cc)) := lin1 864 2 _
      have i1 : inb (nI (864 + 2 * (np + cc))) 4100 := inb_nI (by omega) (by decide)
      have i2 : inb (nI (864 + 2 * (np + cc) + 1)) 4100 := inb_nI (by omega) (by decide)
      have jj : ∀ v5 s0 rr : Int32, (if (nI s : Int32) = 0 then v5 else nI r) = rr → f_Mo_starts_j78 0 m' (nI s) (nI r) (nI (1 - s)) (nI t) v5 s0 (nI (864 + 2 * (np + cc))) 1 = some (Sum.inl (upI (upI (upI m' 1 (864 + 2 * (np + cc)) s0) 1 (864 + 2 * (np + cc) + 1) rr) 1 863 (nI (np + cc + 1)), nI (t + 1))) := by
        intro v5 s0 rr er
        have u1 : (upI m' 1 (864 + 2 * (np + cc)) s0).1 1 863 = nI (np + cc) := by rw [upI_s, if_neg (by omega)]; exact f3.1
        unfold f_Mo_starts_j78 f_Mo_starts_j109
        simp only [Nat.zero_add, ix863, if_pos i1, ix_nI (show 864 + 2 * (np + cc) < 2 ^ 31 by omega), u1, l3, nI_1, if_pos i2, ix_nI (show 864 + 2 * (np + cc) + 1 < 2 ^ 31 by omega)]
        have u2 : ∀ v, (upI (upI m' 1 (864 + 2 * (np + cc)) s0) 1 (864 + 2 * (np + cc) + 1) v).1 1 863 = nI (np + cc) := fun v => by rw [upI_s, if_neg (by omega)]; exact u1
        rw [u2, u2, nI_1]
        by_cases y : (nI s : Int32) = 0
        · rw [if_pos y] at er; rw [if_pos y, er]
        · rw [if_neg y] at er; rw [if_neg y, er]
      have fin : ∀ l rr : Nat, pcod s r Aq t = 40 * l + rr → rr < 40 → ((∀ c, c ≠ 1 → (upI (upI (upI m' 1 (864 + 2 * (np + cc)) (nI l)) 1 (864 + 2 * (np + cc) + 1) (nI rr)) 1 863 (nI (np + cc + 1))).1 c = m.1 c) ∧ (∀ j, (j < 863 ∨ 4064 ≤ j) → (upI (upI (upI m' 1 (864 + 2 * (np + cc)) (nI l)) 1 (864 + 2 * (np + cc) + 1) (nI rr)) 1 863 (nI (np + cc + 1))).1 1 j = m.1 1 j) ∧ PM ((upI (upI (upI m' 1 (864 + 2 * (np + cc)) (nI l)) 1 (864 + 2 * (np + cc) + 1) (nI rr)) 1 863 (nI (np + cc + 1))).1 1) (np + cN (fun i => prt (m.1 1) s r (Aq i)) (t + 1)) (pfP (fun i => prt (m.1 1) s r (Aq i)) (pcod s r Aq) np P (t + 1))) := by
        intro l rr el hrr
        refine ⟨fun c hc => by rw [upI_at _ _ _ _ hc, upI_at _ _ _ _ hc, upI_at _ _ _ _ hc]; exact f1 c hc, fun j hj => by rw [upI_s, if_neg (by omega), upI_s, if_neg (by omega), upI_s, if_neg (by omega)]; exact f2 j hj, by rw [upI_s, if_pos rfl, cn]; rfl, fun i hi => ?_⟩
        rw [cn] at hi
        simp only [pfP]
        rw [hn]
        have at1 : (upI (upI (upI m' 1 (864 + 2 * (np + cc)) (nI l)) 1 (864 + 2 * (np + cc) + 1) (nI rr)) 1 863 (nI (np + cc + 1))).1 1 (864 + 2 * i) = if i = np + cc then nI l else m'.1 1 (864 + 2 * i) := by
          rw [upI_s, if_neg (by omega), upI_s, if_neg (by omega), upI_s]
          by_cases y : i = np + cc
          · rw [if_pos y, if_pos (by omega)]
          · rw [if_neg y, if_neg (by omega)]
        have at2 : (upI (upI (upI m' 1 (864 + 2 * (np + cc)) (nI l)) 1 (864 + 2 * (np + cc) + 1) (nI rr)) 1 863 (nI (np + cc + 1))).1 1 (864 + 2 * i + 1) = if i = np + cc then nI rr else m'.1 1 (864 + 2 * i + 1) := by
          rw [upI_s, if_neg (by omega), upI_s]
          by_cases y : i = np + cc
          · rw [if_pos y, if_pos (by omega)]
          · rw [if_neg y, if_neg (by omega), upI_s, if_neg (by omega)]
        rw [at1, at2]
        by_cases y : i = np + cc
        · rw [if_pos y, if_pos y, if_pos (show prt (m.1 1) s r (Aq t) = true ∧ i = np + cc from ⟨z, y⟩), el, show (40 * l + rr) / 40 = l by omega, show (40 * l + rr) % 40 = rr by omega]
          exact ⟨rfl, rfl⟩
        · rw [if_neg y, if_neg y, if_neg (fun u => y u.2)]
          exact f3.2 i (by omega)
      by_cases s0 : s = 0
      · subst s0
        rw [if_pos (show nI 0 = 0 from rfl), l3, jj (nI (Aq t)) (nI r) (nI (Aq t)) (if_pos rfl)]
        exact ⟨_, rfl, _, rfl, fin r (Aq t) (by unfold pcod; rw [if_pos rfl]) x2⟩
      · have s1 : s = 1 := by omega
        subst s1
        rw [if_neg (show ¬ nI 1 = 0 by decide), l3, jj (nI (Aq t)) (nI (Aq t)) (nI r) (if_neg (by decide))]
        exact ⟨_, rfl, _, rfl, fin (Aq t) r (by unfold pcod; rw [if_neg (by decide)]) hr⟩
    · have cn : cN (fun i => prt (m.1 1) s r (Aq i)) (t + 1) = cc := by simp [cN, z, hn]
      rw [if_neg z, if_pos rfl]
      refine ⟨_, rfl, m', rfl, f1, f2, ?_⟩
      rw [cn]
      refine ⟨f3.1, fun i hi => ?_⟩
      simp only [pfP]
      rw [if_neg (fun u => z u.1)]
      exact f3.2 i hi
  · obtain ⟨m', rfl, f1, f2, f3⟩ := hI
    have l1 : (781 : Int32) + nI (1 - s) = nI (781 + (1 - s)) := nI_add 781 _
    have l4 : (781 : Int32) + nI s = nI (781 + s) := nI_add 781 _
    have l2 : (783 : Int32) + 40 * nI s + nI b = nI (783 + 40 * s + b) := by rw [show (783 : Int32) + 40 * nI s = nI (783 + 40 * s) from lin1 783 40 _, nI_add]
    have i1 : inb (nI (781 + s)) 4100 := inb_nI (by omega) (by decide)
    have u1 : (upI m' 1 (783 + 40 * s + b) (nI r)).1 1 (781 + s) = nI b := by rw [upI_s, if_neg (by omega), f2 _ (by omega)]; exact e5
    show ∃ t, f_Mo_starts_b7 0 m' (nI s) (nI r) (nI (1 - s)) (nI a) = some (Sum.inr t) ∧ _
    unfold f_Mo_starts_b7 f_Mo_activeAt
    simp only [Option.bind_some, Nat.zero_add]
    rw [l1, l4, if_pos (inb_nI (show 781 + (1 - s) < 4100 by omega) (by decide)), ix_nI (show 781 + (1 - s) < 2 ^ 31 by omega), f2 (781 + (1 - s)) (by omega), e1, if_pos (nle _)]
    simp only [if_pos i1]
    rw [ix_nI (show 781 + s < 2 ^ 31 by omega), f2 (781 + s) (by omega), e5, l2, if_pos (inb_nI (show 783 + 40 * s + b < 4100 by omega) (by decide)), ix_nI (show 783 + 40 * s + b < 2 ^ 31 by omega), u1, nI_1]
    refine ⟨_, rfl, fun c hc => by rw [upI_at _ _ _ _ hc, upI_at _ _ _ _ hc]; exact f1 c hc, fun j hj => by rw [upI_s, if_neg (by omega), upI_s, if_neg (by omega)]; exact f2 j (by omega), fun j h1 h2 => ?_, fun j h1 h2 => ?_, ?_⟩
    · rw [upI_s, upI_s, if_neg (show ¬ j = 783 + 40 * s + b by omega), f2 j (by omega)]
    · rw [upI_s, if_neg (by omega), upI_s, f2 j (by omega)]
    · refine ⟨by rw [upI_s, if_neg (by omega), upI_s, if_neg (by omega)]; exact f3.1, fun i hi => ?_⟩
      rw [upI_s, if_neg (by omega), upI_s, if_neg (by omega), upI_s, if_neg (by omega), upI_s, if_neg (by omega)]
      exact f3.2 i hi
set_option maxHeartbeats 400000 in
theorem M_ends {i0 : Nat} (hs : s < 2) (hr : r < 40) (hb : b ≤ 40) (e1 : m.1 1 (781 + s) = nI b) (e2 : ∀ i, i < b → m.1 1 (783 + 40 * s + i) = nI (Aq i) ∧ Aq i < 40) (inj : ∀ i j, i < b → j < b → Aq i = Aq j → i = j) (h0 : i0 < b) (e0 : Aq i0 = r) : ∃ m' : HP, f_Mo_ends 0 m (nI s) (nI r) = some m' ∧ (∀ c, c ≠ 1 → m'.1 c = m.1 c) ∧ (∀ j, j ≠ 619 → j ≠ 781 + s → j ≠ 783 + 40 * s + i0 → m'.1 1 j = m.1 1 j) ∧ m'.1 1 619 = m.1 1 619 + (if i0 = b - 1 then 0 else 1) ∧ m'.1 1 (781 + s) = nI (b - 1) ∧ m'.1 1 (783 + 40 * s + i0) = nI (Aq (b - 1)) := by
  have l4 : (781 : Int32) + nI s = nI (781 + s) := nI_add 781 _
  have l2 : ∀ i, (783 : Int32) + 40 * nI s + nI i = nI (783 + 40 * s + i) := fun i => by rw [show (783 : Int32) + 40 * nI s = nI (783 + 40 * s) from lin1 783 40 _, nI_add]
  have i1 : inb (nI (781 + s)) 4100 := inb_nI (by omega) (by decide)
  have p1 : nI b - 1 = nI (b - 1) := by rw [show b = b - 1 + 1 by omega]; exact nI_pred _
  unfold f_Mo_ends
  simp only [Nat.zero_add]
  rw [l4]
  simp only [if_pos i1]
  rw [ix_nI (show 781 + s < 2 ^ 31 by omega), e1, p1, upI_s, if_pos rfl]
  have wo : ∀ j, j ≠ 781 + s → (upI m 1 (781 + s) (nI (b - 1))).1 1 j = m.1 1 j := fun j hj => by rw [upI_s, if_neg hj]
  have w1 : (upI m 1 (781 + s) (nI (b - 1))).1 1 (781 + s) = nI (b - 1) := by rw [upI_s, if_pos rfl]
  have mo : ∀ c, c ≠ 1 → (upI m 1 (781 + s) (nI (b - 1))).1 c = m.1 c := fun c hc => upI_at _ _ _ _ hc
  generalize upI m 1 (781 + s) (nI (b - 1)) = m1 at *
  have st : ∀ i, i < b → f_Mo_ends_b28 0 m1 (nI s) (nI r) (nI (b - 1)) (nI i) = if Aq i = r then (if i = b - 1 then some (Sum.inr m1) else some (Sum.inr (upI (upI m1 1 (783 + 40 * s + i) (nI (Aq (b - 1)))) 1 619 (m.1 1 619 + 1)))) else some (Sum.inl (nI (i + 1))) := by
    intro i hi
    unfold f_Mo_ends_b28 f_Mo_activeAt
    simp only [Option.bind_some, Nat.zero_add]
    rw [l2, l2, if_pos (inb_nI (show 783 + 40 * s + i < 4100 by omega) (by decide)), ix_nI (show 783 + 40 * s + i < 2 ^ 31 by omega), wo (783 + 40 * s + i) (by omega), (e2 i hi).1, nI_1]
    have a4 := (e2 i hi).2
    by_cases z : Aq i = r
    · rw [if_pos z, if_pos (by rw [z])]
      by_cases y : i = b - 1
      · rw [if_pos y, if_pos (by rw [y])]; rfl
      · rw [if_neg y, if_neg (fun e => y ((nI_eq (by omega) (by omega)).mp e)), if_pos (inb_nI (show 783 + 40 * s + (b - 1) < 4100 by omega) (by decide)), if_pos (inb_nI (show 783 + 40 * s + i < 4100 by omega) (by decide)), ix_nI (show 783 + 40 * s + (b - 1) < 2 ^ 31 by omega), wo (783 + 40 * s + (b - 1)) (by omega), (e2 (b - 1) (by omega)).1, ix619, upI_s, if_neg (by omega), wo 619 (by omega)]
        rfl
    · rw [if_neg z, if_neg (fun e => z ((nI_eq (by omega) (by omega)).mp e))]
  have fin : ∀ m', (if i0 = b - 1 then some (Sum.inr m1) else some (Sum.inr (upI (upI m1 1 (783 + 40 * s + i0) (nI (Aq (b - 1)))) 1 619 (m.1 1 619 + 1)))) = some ((Sum.inr m' : Int32 ⊕ HP)) → f_Mo_ends_l28 0 m1 (nI s) (nI r) (nI (b - 1)) 0 = some m' := by
    intro m' hm
    unfold f_Mo_ends_l28
    refine loop_up (fun i => nI i) i0 (fun i hi => ?_) ?_
    · show f_Mo_ends_b28 0 m1 (nI s) (nI r) (nI (b - 1)) (nI i) = _
      rw [st i (by omega), if_neg (fun e => by have := inj i i0 (by omega) h0 (by rw [e, e0]); omega)]
    · show f_Mo_ends_b28 0 m1 (nI s) (nI r) (nI (b - 1)) (nI i0) = _
      rw [st i0 h0, if_pos e0]; exact hm
  by_cases y : i0 = b - 1
  · rw [if_pos y] at fin
    refine ⟨m1, fin m1 rfl, mo, fun j _ h2 _ => wo j h2, by rw [if_pos y, wo 619 (by omega), Int32.add_zero], w1, ?_⟩
    rw [wo _ (by omega), (e2 i0 h0).1, y]
  · rw [if_neg y] at fin
    refine ⟨_, fin _ rfl, fun c hc => by rw [upI_at _ _ _ _ hc, upI_at _ _ _ _ hc]; exact mo c hc, fun j h1 h2 h3 => by rw [upI_s, if_neg h1, upI_s, if_neg h3]; exact wo j h2, by rw [upI_s, if_pos rfl, if_neg y], by rw [upI_s, if_neg (by omega), upI_s, if_neg (by omega)]; exact w1, by rw [upI_s, if_neg (by omega), upI_s, if_pos rfl]⟩
set_option maxHeartbeats 400000 in
theorem X_takeEnd {h : HP} {i0 : Nat} (hs : s < 2) (hr : r < 40) (hb : b ≤ 40) (e1 : h.1 26 s = nI b) (e2 : ∀ i, i < b → h.1 25 (40 * s + i) = nI (Aq i) ∧ Aq i < 40) (inj : ∀ i j, i < b → j < b → Aq i = Aq j → i = j) (h0 : i0 < b) (e0 : Aq i0 = r) : ∃ h' : HP, f_Cu_takeEnd 23 h (nI s) (nI r) = some h' ∧ (∀ c, (c < 23 ∨ c = 24 ∨ 26 < c) → h'.1 c = h.1 c) ∧ (∀ j, j ≠ 11 → h'.1 23 j = h.1 23 j) ∧ h'.1 23 11 = h.1 23 11 + (if i0 = b - 1 then 0 else 1) ∧ (∀ j, h'.1 26 j = if j = s then nI (b - 1) else h.1 26 j) ∧ ∀ j, h'.1 25 j = if j = 40 * s + i0 then nI (Aq (b - 1)) else h.1 25 j := by
  have l2 : ∀ i, nI s * 40 + nI i = nI (40 * s + i) := fun i => by rw [show nI s * 40 = nI (s * 40) from pk_mul s 40, nI_add, Nat.mul_comm]
  have p1 : nI b - 1 = nI (b - 1) := by rw [show b = b - 1 + 1 by omega]; exact nI_pred _
  have b2 : inb (nI s) 2 := inb_nI hs (by decide)
  unfold f_Cu_takeEnd f_Cu_takeEnd_l18
  simp only [Nat.reduceAdd]
  rw [if_pos b2, ix_nI (show s < 2 ^ 31 by omega), e1, p1]
  have st : ∀ i, i < b → f_Cu_takeEnd_b18 23 h (nI s) (nI r) (nI s * 40) (nI (b - 1)) (nI i) = if Aq i = r then (if i = b - 1 then some (Sum.inr (upI h 26 s (nI (b - 1)))) else some (Sum.inr (upI (upI (upI h 25 (40 * s + i) (nI (Aq (b - 1)))) 23 11 (h.1 23 11 + 1)) 26 s (nI (b - 1))))) else some (Sum.inl (nI (i + 1))) := by
    intro i hi
    unfold f_Cu_takeEnd_b18
    simp only [Nat.reduceAdd]
    rw [l2, l2, if_neg (nI_nlt (show i ≤ b - 1 by omega) (by omega)), if_pos (inb_nI (show 40 * s + i < 80 by omega) (by decide)), ix_nI (show 40 * s + i < 2 ^ 31 by omega), (e2 i hi).1, nI_1]
    have a4 := (e2 i hi).2
    by_cases z : Aq i = r
    · rw [if_pos z, if_pos (by rw [z])]
      by_cases y : i = b - 1
      · rw [if_pos y, if_pos (show nI (b - 1) ≤ nI i by rw [y]; exact nle _), if_pos b2, ix_nI (show s < 2 ^ 31 by omega)]; rfl
      · rw [if_neg y, if_neg (nI_ge (by omega) (by omega)), if_pos (inb_nI (show 40 * s + (b - 1) < 80 by omega) (by decide)), if_pos (inb_nI (show 40 * s + i < 80 by omega) (by decide)), if_pos b2, ix_nI (show 40 * s + (b - 1) < 2 ^ 31 by omega), (e2 (b - 1) (by omega)).1, upI_ne _ _ _ _ (show 23 ≠ 25 by decide), ix_nI (show s < 2 ^ 31 by omega)]
        rfl
    · rw [if_neg z, if_neg (fun e => z ((nI_eq (by omega) (by omega)).mp e))]
  have fin : ∀ m', (if i0 = b - 1 then some (Sum.inr (upI h 26 s (nI (b - 1)))) else some (Sum.inr (upI (upI (upI h 25 (40 * s + i0) (nI (Aq (b - 1)))) 23 11 (h.1 23 11 + 1)) 26 s (nI (b - 1))))) = some ((Sum.inr m' : Int32 ⊕ HP)) → loop (fun x : Int32 => f_Cu_takeEnd_b18 23 h (nI s) (nI r) (nI s * 40) (nI (b - 1)) x) 0 = some m' := by
    intro m' hm
    refine loop_up (fun i => nI i) i0 (fun i hi => ?_) ?_
    · show f_Cu_takeEnd_b18 23 h (nI s) (nI r) (nI s * 40) (nI (b - 1)) (nI i) = _
      rw [st i (by omega), if_neg (fun e => by have := inj i i0 (by omega) h0 (by rw [e, e0]); omega)]
    · show f_Cu_takeEnd_b18 23 h (nI s) (nI r) (nI s * 40) (nI (b - 1)) (nI i0) = _
      rw [st i0 h0, if_pos e0]; exact hm
  by_cases y : i0 = b - 1
  · rw [if_pos y] at fin
    refine ⟨_, fin _ rfl, fun c hc => upI_at _ _ _ _ (by omega), fun j _ => by rw [upI_at _ _ _ _ (by decide)], by rw [if_pos y, upI_at _ _ _ _ (by decide), Int32.add_zero], fun j => upI_s _ _ _ _ _, fun j => ?_⟩
    rw [upI_at _ _ _ _ (by decide)]
    by_cases z : j = 40 * s + i0
    · rw [if_pos z, z, (e2 i0 h0).1, y]
    · rw [if_neg z]
  · rw [if_neg y] at fin
    refine ⟨_, fin _ rfl, fun c hc => by rw [upI_at _ _ _ _ (by omega), upI_at _ _ _ _ (by omega), upI_at _ _ _ _ (by omega)], fun j hj => by rw [upI_at _ _ _ _ (by decide), upI_s, if_neg hj, upI_at _ _ _ _ (by decide)], by rw [upI_at _ _ _ _ (by decide), upI_s, if_pos rfl, if_neg y], fun j => ?_, fun j => ?_⟩
    · rw [upI_s, upI_at _ _ _ _ (show 26 ≠ 23 by decide), upI_at _ _ _ _ (show 26 ≠ 25 by decide)]
    · rw [upI_at _ _ _ _ (show 25 ≠ 26 by decide), upI_at _ _ _ _ (show 25 ≠ 23 by decide), upI_s]
end SM
