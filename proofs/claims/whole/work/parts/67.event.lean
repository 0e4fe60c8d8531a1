/-! one event, both sides -/
set_option maxHeartbeats 400000 in
theorem hdB_cg {w w' : Nat → Int32} {T G : Nat} {E : Nat → Nat} (EV : EVs w T E) (g : grow w w') (u : Nat) : hdB w' G T E u = hdB w G T E u := by
  unfold hdB
  refine anyN_congr T (fun k hk => ?_)
  obtain ⟨h1, h2⟩ := EV.1 k hk
  have f := (g _ (sE_lt h1)).2
  unfold ruE
  rw [f _ 0 h2 (by omega)]
set_option maxHeartbeats 400000 in
theorem X_j106 {h : HP} {w : Nat → Int32} {T G : Nat} {E AC : Nat → Nat} {run mh ma : Int32} (hT : T ≤ 160) (hr : run = 0 ∨ run = 1) (y2 : ∀ s, s < 2 → h.1 26 s = nI (AC s)) (y3 : ∀ u, u < 8 → h.1 27 u = nI (scN w T E G u)) (e9 : h.1 23 9 = mh) (e10 : h.1 23 10 = ma) : f_Cu_takeEvent_j106 23 h run 23 = some (upI (upI (upI h 23 3 run) 23 9 (if mh < nI (AC 0) + nI (AC 1) + nI (cN (hdB w G T E) 8) then nI (AC 0) + nI (AC 1) + nI (cN (hdB w G T E) 8) else mh)) 23 10 (if ma < nI (AC 0) + nI (AC 1) then nI (AC 0) + nI (AC 1) else ma)) := by
  have XH := X_heads (h := upI h 23 3 run) (w := w) (E := E) (G := G) 23 (fun u hu => by
    show (upI h 23 3 run).1 27 u = _
    rw [upI_ne _ _ _ _ (by decide)]; exact y3 u hu) hT
  unfold f_Cu_takeEvent_j106 f_Cu_held f_Cu_activeTogether
  rw [if_pos hr, XH]
  simp only [Option.bind_some, Nat.reduceAdd, ix0, ix1]
  have a0 : (upI h 23 3 run).1 26 0 = nI (AC 0) := by rw [upI_ne _ _ _ _ (by decide)]; exact y2 0 (by omega)
  have a1 : (upI h 23 3 run).1 26 1 = nI (AC 1) := by rw [upI_ne _ _ _ _ (by decide)]; exact y2 1 (by omega)
  have b9 : (upI h 23 3 run).1 23 9 = mh := by rw [upI_s, if_neg (by decide)]; exact e9
  have b10 : (upI h 23 3 run).1 23 10 = ma := by rw [upI_s, if_neg (by decide)]; exact e10
  rw [a0, a1, b9]
  generalize upI h 23 3 run = h3 at *
  rw [upI_ne _ _ _ _ (show 26 ≠ 23 by decide), upI_ne _ _ _ _ (show 26 ≠ 23 by decide), upI_s, if_neg (show ¬ 10 = 9 by decide), a0, a1, b10]
set_option maxHeartbeats 400000 in
theorem M_looks {m : HP} {w : Nat → Int32} {T G : Nat} {E AC : Nat → Nat} (hw : m.1 1 = w) (R : RowsOk w) (hT : T ≤ 160) (hG : G ≤ T) (EV : EVs w T E) (e1 : w 615 = nI G) (e2 : w 616 = nI T) (e3 : ∀ k, k < T → w (621 + k) = nI (E k)) (a0 : w 781 = nI (AC 0)) (a1 : w 782 = nI (AC 1)) : f_Mo_looksAtHeld 0 m = some (upI (upI m 1 617 (if w 617 < nI (AC 0) + nI (AC 1) + nI (cN (hdB w G T E) 8) then nI (AC 0) + nI (AC 1) + nI (cN (hdB w G T E) 8) else w 617)) 1 618 (if w 618 < nI (AC 0) + nI (AC 1) then nI (AC 0) + nI (AC 1) else w 618)) := by
  have MH := M_heads hw R hT hG EV e1 e2 e3
  unfold f_Mo_looksAtHeld f_Mo_actives
  rw [MH]
  simp only [Option.bind_some, Nat.zero_add, ix781, ix782, ix617, ix618, M_more]
  rw [hw, a0, a1, upI_s, upI_s, upI_s, if_neg (show ¬ 781 = 617 by decide), if_neg (show ¬ 782 = 617 by decide), if_neg (show ¬ 618 = 617 by decide), hw, a0, a1]
section ET
variable {h1 m2 : HP} {T G np : Nat} {E AC P : Nat → Nat} {A : Nat → Nat → Nat} {code : Int32}
set_option maxHeartbeats 400000 in
theorem X_j68 {w : Nat → Int32} {pl mh ma : Int32} (hT : T ≤ 160) (hG : G < T) (ec : (code >>> (8 &&& 31)) - 2000000 = pl) (x1 : h1.1 23 1 = nI T) (x2 : h1.1 23 2 = nI G) (x9 : h1.1 23 9 = mh) (x10 : h1.1 23 10 = ma) (y2 : ∀ s, s < 2 → h1.1 26 s = nI (AC s)) (y3 : ∀ u, u < 8 → h1.1 27 u = nI (scN w T E (G + 1) u)) : f_Cu_takeEvent_j68 23 h1 code = some (upI (upI (upI (upI (upI h1 23 12 pl) 23 2 (nI (G + 1))) 23 3 (if T ≤ G + 1 then 0 else 1)) 23 9 (if mh < nI (AC 0) + nI (AC 1) + nI (cN (hdB w (G + 1) T E) 8) then nI (AC 0) + nI (AC 1) + nI (cN (hdB w (G + 1) T E) 8) else mh)) 23 10 (if ma < nI (AC 0) + nI (AC 1) then nI (AC 0) + nI (AC 1) else ma)) := by
  unfold f_Cu_takeEvent_j68
  have u2 : (upI h1 23 12 pl).1 23 2 = nI G := by rw [upI_s, if_neg (by decide)]; exact x2
  rw [ec, u2, nI_1]
  have v1 : (upI (upI h1 23 12 pl) 23 2 (nI (G + 1))).1 23 1 = nI T := by rw [upI_s, if_neg (by decide), upI_s, if_neg (by decide)]; exact x1
  have v2 : (upI (upI h1 23 12 pl) 23 2 (nI (G + 1))).1 23 2 = nI (G + 1) := by rw [upI_s, if_pos rfl]
  have v9 : (upI (upI h1 23 12 pl) 23 2 (nI (G + 1))).1 23 9 = mh := by rw [upI_s, if_neg (by decide), upI_s, if_neg (by decide)]; exact x9
  have v10 : (upI (upI h1 23 12 pl) 23 2 (nI (G + 1))).1 23 10 = ma := by rw [upI_s, if_neg (by decide), upI_s, if_neg (by decide)]; exact x10
  have v26 : ∀ s, s < 2 → (upI (upI h1 23 12 pl) 23 2 (nI (G + 1))).1 26 s = nI (AC s) := fun s hs => by rw [upI_ne _ _ _ _ (by decide), upI_ne _ _ _ _ (by decide)]; exact y2 s hs
  have v27 : ∀ u, u < 8 → (upI (upI h1 23 12 pl) 23 2 (nI (G + 1))).1 27 u = nI (scN w T E (G + 1) u) := fun u hu => by rw [upI_ne _ _ _ _ (by decide), upI_ne _ _ _ _ (by decide)]; exact y3 u hu
  generalize upI (upI h1 23 12 pl) 23 2 (nI (G + 1)) = h2 at *
  rw [v1, v2]
  by_cases z : T ≤ G + 1
  · rw [if_pos (nI_le z (by omega)), if_pos z]
    exact X_j106 hT (Or.inl rfl) v26 v27 v9 v10
  · rw [if_neg (nI_ge (by omega) (by omega)), if_neg z]
    exact X_j106 hT (Or.inr rfl) v26 v27 v9 v10
set_option maxHeartbeats 400000 in
theorem M_j77 (R : RowsOk (m2.1 1)) (hT : T ≤ 160) (hG : G < T) (EV : EVs (m2.1 1) T E) (w1 : m2.1 1 615 = nI (G + 1)) (w2 : m2.1 1 616 = nI T) (w3 : ∀ k, k < T → m2.1 1 (621 + k) = nI (E k)) (a0 : m2.1 1 781 = nI (AC 0)) (a1 : m2.1 1 782 = nI (AC 1)) (w614 : m2.1 1 614 = 1) : ∃ m' : HP, f_Mo_goes_j77 0 m2 = some m' ∧ (∀ c, c ≠ 1 → m'.1 c = m2.1 c) ∧ (∀ j, j ≠ 614 → j ≠ 617 → j ≠ 618 → m'.1 1 j = m2.1 1 j) ∧ m'.1 1 614 = (if T ≤ G + 1 then 0 else 1) ∧ m'.1 1 617 = (if m2.1 1 617 < nI (AC 0) + nI (AC 1) + nI (cN (hdB (m2.1 1) (G + 1) T E) 8) then nI (AC 0) + nI (AC 1) + nI (cN (hdB (m2.1 1) (G + 1) T E) 8) else m2.1 1 617) ∧ m'.1 1 618 = (if m2.1 1 618 < nI (AC 0) + nI (AC 1) then nI (AC 0) + nI (AC 1) else m2.1 1 618) := by
  unfold f_Mo_goes_j77
  rw [M_looks (w := m2.1 1) (G := G + 1) rfl R hT (by omega) EV w1 w2 w3 a0 a1]
  simp only [Option.bind_some, Nat.zero_add, ix614, ix615, ix616]
  generalize (if m2.1 1 617 < nI (AC 0) + nI (AC 1) + nI (cN (hdB (m2.1 1) (G + 1) T E) 8) then nI (AC 0) + nI (AC 1) + nI (cN (hdB (m2.1 1) (G + 1) T E) 8) else m2.1 1 617) = A1
  generalize (if m2.1 1 618 < nI (AC 0) + nI (AC 1) then nI (AC 0) + nI (AC 1) else m2.1 1 618) = A2
  have s15 : (upI (upI m2 1 617 A1) 1 618 A2).1 1 615 = nI (G + 1) := by rw [upI_s, if_neg (by decide), upI_s, if_neg (by decide)]; exact w1
  have s16 : (upI (upI m2 1 617 A1) 1 618 A2).1 1 616 = nI T := by rw [upI_s, if_neg (by decide), upI_s, if_neg (by decide)]; exact w2
  rw [s15, s16]
  by_cases z : T ≤ G + 1
  · rw [if_pos (by rw [show G + 1 = T by omega]), if_pos z]
    exact ⟨_, rfl, fun c hc => by rw [upI_at _ _ _ _ hc, upI_at _ _ _ _ hc, upI_at _ _ _ _ hc], fun j h1 h2 h3 => by rw [upI_s, if_neg h1, upI_s, if_neg h3, upI_s, if_neg h2], by rw [upI_s, if_pos rfl], by rw [upI_s, if_neg (by decide), upI_s, if_neg (by decide), upI_s, if_pos rfl], by rw [upI_s, if_neg (by decide), upI_s, if_pos rfl]⟩
  · rw [if_neg (fun e => absurd ((nI_eq (by omega) (by omega)).mp e) (by omega)), if_neg z]
    exact ⟨_, rfl, fun c hc => by rw [upI_at _ _ _ _ hc, upI_at _ _ _ _ hc], fun j h1 h2 h3 => by rw [upI_s, if_neg h3, upI_s, if_neg h2], by rw [upI_s, if_neg (by decide), upI_s, if_neg (by decide)]; exact w614, by rw [upI_s, if_neg (by decide), upI_s, if_pos rfl], by rw [upI_s, if_pos rfl]⟩
set_option maxHeartbeats 400000 in
theorem event_tail (V : SV h1 1 (m2.1 1)) (R : RowsOk (m2.1 1)) (se : (m2.1 1 0 = 0 ∨ m2.1 1 0 = 1) ∧ m2.1 1 1 &&& 2044 = m2.1 1 1) (bv : BV h1 1 (m2.1 1)) (tv : TV h1 1 (m2.1 1)) (hT : T ≤ 160) (hG : G < T) (EV : EVs (m2.1 1) T E) (H : ACs (G + 1) E AC A) (hnp : np ≤ stN E (G + 1) 0 * stN E (G + 1) 1) (w614 : m2.1 1 614 = 1) (w1 : m2.1 1 615 = nI (G + 1)) (w2 : m2.1 1 616 = nI T) (w3 : ∀ k, k < T → m2.1 1 (621 + k) = nI (E k)) (w4 : ∀ s, s < 2 → m2.1 1 (781 + s) = nI (AC s) ∧ ∀ i, i < AC s → m2.1 1 (783 + 40 * s + i) = nI (A s i)) (pm : PM (m2.1 1) np P) (pv : ∀ i, i < np → P i / 40 < nS (m2.1 1) 0 ∧ P i % 40 < nS (m2.1 1) 1) (x1 : h1.1 23 1 = nI T) (x2 : h1.1 23 2 = nI G) (x8 : h1.1 23 8 = nI np) (x9 : h1.1 23 9 = m2.1 1 617) (x10 : h1.1 23 10 = m2.1 1 618) (x11 : h1.1 23 11 = m2.1 1 619) (y1 : ∀ k, k < T → h1.1 24 k = nI (evC (m2.1 1) (E k))) (y2 : ∀ s, s < 2 → h1.1 26 s = nI (AC s) ∧ ∀ i, i < AC s → h1.1 25 (40 * s + i) = nI (A s i)) (y3 : ∀ u, u < 8 → h1.1 27 u = nI (scN (m2.1 1) T E (G + 1) u)) (y4 : ∀ i, i < np → h1.1 28 i = nI (P i)) (ec : (code >>> (8 &&& 31)) - 2000000 = m2.1 1 620) : ∃ h' m' : HP, f_Cu_takeEvent_j68 23 h1 code = some h' ∧ f_Mo_goes_j77 0 m2 = some m' ∧ RT h' 1 (m'.1 1) ∧ (∀ c, c ≠ 23 → h'.1 c = h1.1 c) ∧ (∀ c, c ≠ 1 → m'.1 c = m2.1 c) ∧ ∀ j, 4064 ≤ j → m'.1 1 j = m2.1 1 j := by
  have hnp2 := np_le hnp
  obtain ⟨m', em, n1, n2, n3, n4, n5⟩ := M_j77 R hT hG EV w1 w2 w3 (w4 0 (by omega)).1 (w4 1 (by omega)).1 w614
  have ex := X_j68 (w := m2.1 1) hT hG ec x1 x2 x9 x10 (fun s hs => (y2 s hs).1) y3
  generalize hA1 : (if m2.1 1 617 < nI (AC 0) + nI (AC 1) + nI (cN (hdB (m2.1 1) (G + 1) T E) 8) then nI (AC 0) + nI (AC 1) + nI (cN (hdB (m2.1 1) (G + 1) T E) 8) else m2.1 1 617) = A1 at *
  generalize hA2 : (if m2.1 1 618 < nI (AC 0) + nI (AC 1) then nI (AC 0) + nI (AC 1) else m2.1 1 618) = A2 at *
  generalize hrn : (if T ≤ G + 1 then (0 : Int32) else 1) = rn at *
  refine ⟨_, m', ex, em, ?_, ?_, n1, fun j hj => n2 j (by omega) (by omega) (by omega)⟩
  · have g := grow.of R (w' := m'.1 1) (fun j h1 h2 => n2 j (by omega) (by omega) (by omega))
    generalize hh : upI (upI (upI (upI (upI h1 23 12 (m2.1 1 620)) 23 2 (nI (G + 1))) 23 3 rn) 23 9 A1) 23 10 A2 = h'
    have hc : ∀ c, c ≠ 23 → h'.1 c = h1.1 c := fun c hc => by rw [← hh, upI_at _ _ _ _ hc, upI_at _ _ _ _ hc, upI_at _ _ _ _ hc, upI_at _ _ _ _ hc, upI_at _ _ _ _ hc]
    have ho : ∀ j, j ≠ 12 → j ≠ 2 → j ≠ 3 → j ≠ 9 → j ≠ 10 → h'.1 23 j = h1.1 23 j := fun j a b c d e => by rw [← hh, upI_s, if_neg e, upI_s, if_neg d, upI_s, if_neg c, upI_s, if_neg b, upI_s, if_neg a]
    have h12 : h'.1 23 12 = m2.1 1 620 := by rw [← hh, upI_s, if_neg (by decide), upI_s, if_neg (by decide), upI_s, if_neg (by decide), upI_s, if_neg (by decide), upI_s, if_pos rfl]
    have h2 : h'.1 23 2 = nI (G + 1) := by rw [← hh, upI_s, if_neg (by decide), upI_s, if_neg (by decide), upI_s, if_neg (by decide), upI_s, if_pos rfl]
    have h3 : h'.1 23 3 = rn := by rw [← hh, upI_s, if_neg (by decide), upI_s, if_neg (by decide), upI_s, if_pos rfl]
    have h9 : h'.1 23 9 = A1 := by rw [← hh, upI_s, if_neg (by decide), upI_s, if_pos rfl]
    have h10 : h'.1 23 10 = A2 := by rw [← hh, upI_s, if_pos rfl]
    have pe : ∀ k, k < T → evC (m'.1 1) (E k) = evC (m2.1 1) (E k) ∧ ruE (m'.1 1) (E k) = ruE (m2.1 1) (E k) := fun k hk => by
      obtain ⟨a1, a2⟩ := EV.1 k hk
      have f := (g _ (sE_lt a1)).2
      unfold evC ruE plE sp ep
      rw [f _ 0 a2 (by omega), f _ 2 a2 (by omega), f _ 3 a2 (by omega)]
      exact ⟨rfl, rfl⟩
    refine ⟨(V.cgt (fun c a b => hc c (by omega))).cgw R (fun j hj => n2 j (by omega) (by omega) (by omega)), R.cgw (fun j _ hj => n2 j (by omega) (by omega) (by omega)), by rw [n2 0 (by decide) (by decide) (by decide), n2 1 (by decide) (by decide) (by decide)]; exact se, (bv.cgt (fun c a b => hc c (by omega))).cgw (fun j a b => n2 j (by omega) (by omega) (by omega)), ?_, ?_⟩
    · refine TV.cgw (w := m2.1 1) ?_ (fun j a b => n2 j (by omega) (by omega) (by omega))
      unfold TV; rw [hc (1 + 19) (by omega), hc (1 + 20) (by omega), hc (1 + 21) (by omega)]; exact tv
    · refine ⟨T, G + 1, np, E, AC, A, ⟨hT, by omega, ?_⟩, ⟨fun k hk => ⟨(EV.1 k hk).1, Nat.lt_of_lt_of_le (EV.1 k hk).2 (g _ (sE_lt (EV.1 k hk).1)).1⟩, EV.2⟩, H, hnp, ⟨by rw [n2 615 (by decide) (by decide) (by decide)]; exact w1, by rw [n2 616 (by decide) (by decide) (by decide)]; exact w2, fun k hk => by rw [n2 _ (by omega) (by omega) (by omega)]; exact w3 k hk, fun s hs => ?_, by rw [n2 863 (by decide) (by decide) (by decide)]; exact pm.1⟩, ⟨?_, h2, ?_, ?_, ?_, ?_, ?_, ?_⟩, fun k hk => ?_, fun s hs => ?_, fun u hu => ?_, fun i hi => ?_⟩
      · rw [n3, ← hrn]
        by_cases z : T ≤ G + 1
        · rw [if_pos z]; exact Or.inl rfl
        · rw [if_neg z]; exact Or.inr ⟨rfl, by omega⟩
      · have := AC_40 H hs
        rw [n2 _ (by omega) (by omega) (by omega)]
        exact ⟨(w4 s hs).1, fun i hi => by rw [n2 _ (by omega) (by omega) (by omega)]; exact (w4 s hs).2 i hi⟩
      · exact (ho 1 (by decide) (by decide) (by decide) (by decide) (by decide)).trans x1
      · exact h3.trans n3.symm
      · exact (ho 8 (by decide) (by decide) (by decide) (by decide) (by decide)).trans x8
      · exact h9.trans n4.symm
      · exact h10.trans n5.symm
      · exact (ho 11 (by decide) (by decide) (by decide) (by decide) (by decide)).trans (x11.trans (n2 619 (by decide) (by decide) (by decide)).symm)
      · exact h12.trans (n2 620 (by decide) (by decide) (by decide)).symm
      · rw [hc _ (by omega), (pe k hk).1]; exact y1 k hk
      · rw [hc _ (by omega), hc _ (by omega)]; exact y2 s hs
      · rw [hc _ (by omega)]
        refine (y3 u hu).trans (congrArg nI ?_)
        exact cN_congr T (fun k hk => by rw [(pe k hk).2])
      · rw [hc _ (by omega)]
        refine ⟨P i / 40, P i % 40, Nat.lt_of_lt_of_le (pv i hi).1 (g 0 (by omega)).1, Nat.lt_of_lt_of_le (pv i hi).2 (g 1 (by omega)).1, ?_, ?_, ?_⟩
        · rw [n2 _ (by omega) (by omega) (by omega)]; exact (pm.2 i hi).1
        · rw [n2 _ (by omega) (by omega) (by omega)]; exact (pm.2 i hi).2
        · rw [show 40 * (P i / 40) + P i % 40 = P i by omega]; exact y4 i hi
  · intro c hc
    rw [upI_at _ _ _ _ hc, upI_at _ _ _ _ hc, upI_at _ _ _ _ hc, upI_at _ _ _ _ hc, upI_at _ _ _ _ hc]
end ET
