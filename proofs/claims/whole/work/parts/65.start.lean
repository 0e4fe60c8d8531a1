/-! an event that starts a row, on both sides -/
def pcod (s r : Nat) (Aq : Nat → Nat) (i : Nat) : Nat := if s = 0 then 40 * r + Aq i else 40 * Aq i + r
set_option maxHeartbeats 400000 in
theorem X_putPair {h : HP} {n l r : Nat} (e : h.1 23 8 = nI n) (hn : n < 1600) : f_Cu_putPair 23 h (nI l) (nI r) = some (upI (upI h 28 n (nI (40 * l + r))) 23 8 (nI (n + 1))) := by
  have l1 : nI l * 40 + nI r = nI (40 * l + r) := by rw [show nI l * 40 = nI (l * 40) from pk_mul l 40, nI_add, Nat.mul_comm]
  unfold f_Cu_putPair
  rw [e, if_neg (show ¬ (1600 : Int32) ≤ nI n from nI_ge (b := 1600) hn (by decide)), if_pos (inb_nI hn (by decide)), ix_nI (by omega), l1]
  simp only [Nat.reduceAdd]
  rw [upI_ne _ _ _ _ (by decide), e, nI_1]
section ST
variable {h m : HP} {w : Nat → Int32} {s r a b np : Nat} {Aq P : Nat → Nat}
set_option maxHeartbeats 400000 in
theorem X_tsLoop (V : SV h 1 w) (hs : s < 2) (hr : r < nS w s) (ha : a ≤ 40) (e1 : h.1 26 (1 - s) = nI a) (e2 : ∀ i, i < a → h.1 25 ((1 - s) * 40 + i) = nI (Aq i) ∧ Aq i < nS w (1 - s)) (e3 : h.1 23 8 = nI np) (e4 : ∀ i, i < np → h.1 28 i = nI (P i)) (hnp : np + a ≤ 1600) (K : HP → Prop) (hK : ∀ h' : HP, (∀ c, c ≠ 23 → c ≠ 28 → h'.1 c = h.1 c) → (∀ j, j ≠ 8 → h'.1 23 j = h.1 23 j) → h'.1 23 8 = nI (np + cN (fun i => prt w s r (Aq i)) a) → (∀ i, i < np + cN (fun i => prt w s r (Aq i)) a → h'.1 28 i = nI (pfP (fun i => prt w s r (Aq i)) (pcod s r Aq) np P a i)) → ∃ t, f_Cu_takeStart_b11 23 h' 1 (nI s) (nI r) (nI ((1 - s) * 40)) (nI a) = some (Sum.inr t) ∧ K t) : ∃ t, f_Cu_takeStart 23 h 1 (nI s) (nI r) = some t ∧ K t := by
  unfold f_Cu_takeStart f_Cu_takeStart_l11
  rw [one_sub hs, show nI (1 - s) * 40 = nI ((1 - s) * 40) from pk_mul _ 40]
  refine loop_inv (body := fun x : HP × Int32 => f_Cu_takeStart_b11 23 x.1 1 (nI s) (nI r) (nI ((1 - s) * 40)) x.2) (fun t x => ∃ h' : HP, x = (h', nI t) ∧ (∀ c, c ≠ 23 → c ≠ 28 → h'.1 c = h.1 c) ∧ (∀ j, j ≠ 8 → h'.1 23 j = h.1 23 j) ∧ h'.1 23 8 = nI (np + cN (fun i => prt w s r (Aq i)) t) ∧ ∀ i, i < np + cN (fun i => prt w s r (Aq i)) t → h'.1 28 i = nI (pfP (fun i => prt w s r (Aq i)) (pcod s r Aq) np P t i)) a K (fun t x ht hI => ?_) (fun x hI => ?_) (h, 0) ⟨h, rfl, fun _ _ _ => rfl, fun _ _ => rfl, e3, fun i hi => e4 i hi⟩
  · obtain ⟨h', rfl, f1, f2, f3, f4⟩ := hI
    have cl := cN_le (fun i => prt w s r (Aq i)) t
    have V' : SV h' 1 w := V.cgt (fun c h1 h2 => f1 c (by omega) (by omega))
    obtain ⟨x1, x2⟩ := e2 t ht
    have ep := X_prt V' hs hr x2
    show ∃ s', f_Cu_takeStart_b11 23 h' 1 (nI s) (nI r) (nI ((1 - s) * 40)) (nI t) = some (Sum.inl s') ∧ _
    unfold f_Cu_takeStart_b11 f_Cu_takeStart_j58 f_Cu_takeStart_j68
    simp only [Nat.reduceAdd]
    rw [one_sub hs, if_pos (inb_nI (show 1 - s < 2 by omega) (by decide)), ix_nI (by omega), f1 26 (by decide) (by decide), e1, if_neg (nI_ge ht (by omega)), nI_add, if_pos (inb_nI (show (1 - s) * 40 + t < 80 by omega) (by decide)), ix_nI (by omega), f1 25 (by decide) (by decide), x1, ep, nI_1]
    simp only [Option.bind_some]
    by_cases z : prt w s r (Aq t) = true
    · have cn : cN (fun i => prt w s r (Aq i)) (t + 1) = cN (fun i => prt w s r (Aq i)) t + 1 := by simp only [cN, z, if_true]
      rw [if_pos z, if_neg one0]
      have pp : ∀ l rr, pcod s r Aq t = 40 * l + rr → ∃ h2 : HP, f_Cu_putPair 23 h' (nI l) (nI rr) = some h2 ∧ (∀ c, c ≠ 23 → c ≠ 28 → h2.1 c = h.1 c) ∧ (∀ j, j ≠ 8 → h2.1 23 j = h.1 23 j) ∧ h2.1 23 8 = nI (np + cN (fun i => prt w s r (Aq i)) (t + 1)) ∧ ∀ i, i < np + cN (fun i => prt w s r (Aq i)) (t + 1) → h2.1 28 i = nI (pfP (fun i => prt w s r (Aq i)) (pcod s r Aq) np P (t + 1) i) := by
        intro l rr el
        refine ⟨_, X_putPair f3 (by omega), fun c h1 h2 => ?_, fun j hj => ?_, ?_, fun i hi => ?_⟩
        · rw [upI_at _ _ _ _ h1, upI_at _ _ _ _ h2]; exact f1 c h1 h2
        · rw [upI_s, if_neg hj, upI_ne _ _ _ _ (by decide)]; exact f2 j hj
        · rw [upI_s, if_pos rfl, cn]; rfl
        · rw [upI_ne _ _ _ _ (by decide), upI_s]
          simp only [pfP]
          by_cases y : i = np + cN (fun i => prt w s r (Aq i)) t
          · rw [if_pos y, if_pos ⟨z, y⟩, el]
          · rw [if_neg y, if_neg (fun u => y u.2)]
            exact f4 i (by rw [cn] at hi; omega)
      by_cases s0 : s = 0
      · subst s0
        rw [if_pos (show nI 0 = 0 from rfl), if_pos (show nI 0 = 0 from rfl)]
        obtain ⟨h2, g1, g2⟩ := pp r (Aq t) (by unfold pcod; rw [if_pos rfl])
        rw [g1]
        exact ⟨_, rfl, h2, rfl, g2⟩
      · have s1 : s = 1 := by omega
        subst s1
        rw [if_neg (show ¬ nI 1 = 0 by decide), if_neg (show ¬ nI 1 = 0 by decide)]
        obtain ⟨h2, g1, g2⟩ := pp (Aq t) r (by unfold pcod; rw [if_neg (by decide)])
        rw [g1]
        exact ⟨_, rfl, h2, rfl, g2⟩
    · have cn : cN (fun i => prt w s r (Aq i)) (t + 1) = cN (fun i => prt w s r (Aq i)) t := by simp [cN, z]
      rw [if_neg z, if_pos rfl]
      refine ⟨_, rfl, h', rfl, f1, f2, by rw [cn]; exact f3, fun i hi => ?_⟩
      rw [cn] at hi
      simp only [pfP]
      rw [if_neg (fun u => z u.1)]
      exact f4 i hi
  · obtain ⟨h', rfl, f1, f2, f3, f4⟩ := hI
    exact hK h' f1 f2 f3 f4
set_option maxHeartbeats 400000 in
theorem X_tsTail (V : SV h 1 w) (R : RowsOk w) (hs : s < 2) (hr : r < nS w s) (e1 : h.1 26 (1 - s) = nI a) (e2 : h.1 26 s = nI b) (hb : b < 40) (v4 : Int32) : f_Cu_takeStart_b11 23 h 1 (nI s) (nI r) v4 (nI a) = some (Sum.inr (upI (upI (upI h 25 (40 * s + b) (nI r)) 26 s (nI (b + 1))) 27 (4 * s + ix (fld w s r 0)) (h.1 27 (4 * s + ix (fld w s r 0)) - 1))) := by
  have hn := (R s hs).2.1
  have rk := ((R s hs).2.2 r hr).1
  obtain ⟨j, hj, ej⟩ := nI_of (x := fld w s r 0) (Int32.not_lt.mpr rk.1)
  have j3 : j ≤ 3 := by
    rcases Nat.lt_or_ge 3 j with z | z
    · have := rk.2; rw [ej] at this; exact absurd this (nI_ge (b := j) (a := 3) z hj)
    · exact z
  unfold f_Cu_takeStart_b11 f_Cu_takeStart_j115
  simp only [Nat.reduceAdd]
  have l1 : nI s * 40 + nI b = nI (40 * s + b) := by rw [show nI s * 40 = nI (s * 40) from pk_mul s 40, nI_add, Nat.mul_comm]
  have b2 : inb (nI s) 2 := inb_nI hs (by decide)
  rw [one_sub hs, if_pos (inb_nI (show 1 - s < 2 by omega) (by decide)), ix_nI (by omega), e1, if_pos (nle _)]
  simp only [if_pos b2]
  rw [ix_nI (show s < 2 ^ 31 by omega), e2, if_neg (show ¬ (40 : Int32) ≤ nI b from nI_ge (b := 40) hb (by decide)), l1, if_pos (inb_nI (show 40 * s + b < 80 by omega) (by decide)), ix_nI (by omega), upI_ne _ _ _ _ (show 26 ≠ 25 by decide), e2, nI_1]
  have V' : SV (upI (upI h 25 (40 * s + b) (nI r)) 26 s (nI (b + 1))) 1 w := V.cgt (fun c h1 h2 => by rw [upI_at _ _ _ _ (by omega), upI_at _ _ _ _ (by omega)])
  have Vr := V'.rv hs
  have u27 : ∀ k, (upI (upI h 25 (40 * s + b) (nI r)) 26 s (nI (b + 1))).1 27 k = h.1 27 k := fun k => by rw [upI_ne _ _ _ _ (by decide), upI_ne _ _ _ _ (by decide)]
  generalize upI (upI h 25 (40 * s + b) (nI r)) 26 s (nI (b + 1)) = h' at *
  have l2 : nI s * 4 + nI j = nI (4 * s + j) := by rw [show nI s * 4 = nI (s * 4) from pk_mul s 4, nI_add, Nat.mul_comm]
  have b40 : inb (nI r) 40 := inb_nI (by omega) (by decide)
  have b8 : inb (nI (4 * s + j)) 8 := inb_nI (by omega) (by decide)
  rw [X_rowsOf hs rfl]
  simp only [Option.bind_some]
  rw [X_has Vr.2.1, if_pos (has_in hr hn)]
  simp only [Option.bind_some, if_pos b40]
  rw [if_neg one0, ix_nI (show r < 2 ^ 31 by omega), (Vr.2.2 r hr).1, ej, if_neg (nI_pos (by omega)), if_neg (show ¬ (4 : Int32) ≤ nI j from nI_ge (b := 4) (by omega) (by decide)), l2, ix_nI (by omega), ix_nI hj]
  simp only [if_pos b8]
  rw [u27]
  rfl
set_option maxHeartbeats 400000 in
theorem X_takeStart (V : SV h 1 w) (R : RowsOk w) (hs : s < 2) (hr : r < nS w s) (ha : a ≤ 40) (hb : b < 40) (e1 : h.1 26 (1 - s) = nI a) (e2 : ∀ i, i < a → h.1 25 ((1 - s) * 40 + i) = nI (Aq i) ∧ Aq i < nS w (1 - s)) (e3 : h.1 23 8 = nI np) (e4 : ∀ i, i < np → h.1 28 i = nI (P i)) (e5 : h.1 26 s = nI b) (hnp : np + a ≤ 1600) : ∃ h' : HP, f_Cu_takeStart 23 h 1 (nI s) (nI r) = some h' ∧ (∀ c, (c < 23 ∨ c = 24 ∨ 28 < c) → h'.1 c = h.1 c) ∧ (∀ j, j ≠ 8 → h'.1 23 j = h.1 23 j) ∧ h'.1 23 8 = nI (np + cN (fun i => prt w s r (Aq i)) a) ∧ (∀ j, h'.1 25 j = if j = 40 * s + b then nI r else h.1 25 j) ∧ (∀ j, h'.1 26 j = if j = s then nI (b + 1) else h.1 26 j) ∧ (∀ j, h'.1 27 j = if j = 4 * s + ix (fld w s r 0) then h.1 27 (4 * s + ix (fld w s r 0)) - 1 else h.1 27 j) ∧ ∀ i, i < np + cN (fun i => prt w s r (Aq i)) a → h'.1 28 i = nI (pfP (fun i => prt w s r (Aq i)) (pcod s r Aq) np P a i) := by
  refine X_tsLoop V hs hr ha e1 e2 e3 e4 hnp (fun h' => (∀ c, (c < 23 ∨ c = 24 ∨ 28 < c) → h'.1 c = h.1 c) ∧ (∀ j, j ≠ 8 → h'.1 23 j = h.1 23 j) ∧ h'.1 23 8 = nI (np + cN (fun i => prt w s r (Aq i)) a) ∧ (∀ j, h'.1 25 j = if j = 40 * s + b then nI r else h.1 25 j) ∧ (∀ j, h'.1 26 j = if j = s then nI (b + 1) else h.1 26 j) ∧ (∀ j, h'.1 27 j = if j = 4 * s + ix (fld w s r 0) then h.1 27 (4 * s + ix (fld w s r 0)) - 1 else h.1 27 j) ∧ ∀ i, i < np + cN (fun i => prt w s r (Aq i)) a → h'.1 28 i = nI (pfP (fun i => prt w s r (Aq i)) (pcod s r Aq) np P a i)) (fun h1 f1 f2 f3 f4 => ?_)
  have V1 : SV h1 1 w := V.cgt (fun c h1 h2 => f1 c (by omega) (by omega))
  have f26 := f1 26 (by decide) (by decide)
  have f25 := f1 25 (by decide) (by decide)
  have f27 := f1 27 (by decide) (by decide)
  refine ⟨_, X_tsTail V1 R hs hr (by rw [f26]; exact e1) (by rw [f26]; exact e5) hb _, fun c hc => ?_, fun j hj => ?_, ?_, fun j => ?_, fun j => ?_, fun j => ?_, fun i hi => ?_⟩
  · rw [upI_at _ _ _ _ (by omega), upI_at _ _ _ _ (by omega), upI_at _ _ _ _ (by omega)]; exact f1 c (by omega) (by omega)
  · rw [upI_at _ _ _ _ (by decide), upI_at _ _ _ _ (by decide), upI_at _ _ _ _ (by decide)]; exact f2 j hj
  · rw [upI_at _ _ _ _ (by decide), upI_at _ _ _ _ (by decide), upI_at _ _ _ _ (by decide)]; exact f3
  · rw [upI_at _ _ _ _ (show 25 ≠ 27 by decide), upI_at _ _ _ _ (show 25 ≠ 26 by decide), upI_s, f25]
  · rw [upI_at _ _ _ _ (show 26 ≠ 27 by decide), upI_s, upI_at _ _ _ _ (show 26 ≠ 25 by decide), f26]
  · rw [upI_s, upI_at _ _ _ _ (show 27 ≠ 26 by decide), upI_at _ _ _ _ (show 27 ≠ 25 by decide), f27]
  · rw [upI_at _ _ _ _ (by decide), upI_at _ _ _ _ (by decide), upI_at _ _ _ _ (by decide)]; exact f4 i hi
end ST
