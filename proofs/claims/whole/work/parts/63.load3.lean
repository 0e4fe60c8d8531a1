/-! load: all rows of the batch, or none -/
def LI (s n0 i : Nat) (h0 m0 h m : HP) : Prop := SV h 1 (m.1 1) ∧ RowsOk (m.1 1) ∧ nS (m.1 1) s = n0 + i ∧ grow (m0.1 1) (m.1 1) ∧ (∀ t, t < 2 → t ≠ s → nS (m.1 1) t = nS (m0.1 1) t) ∧ (∀ a, 14 ≤ a → h.1 a = h0.1 a) ∧ (∀ j, (404 ≤ j ∨ j < 2) → m.1 1 j = m0.1 1 j) ∧ ∀ a, a ≠ 1 → m.1 a = m0.1 a
/-- what stands as the load begins -/
def LB (s n0 B : Nat) (h0 m0 : HP) : Prop := ((m0.1 1 0 = 0 ∨ m0.1 1 0 = 1) ∧ m0.1 1 1 &&& 2044 = m0.1 1 1) ∧ BV h0 1 (m0.1 1) ∧ CV h0 1 (m0.1 1) ∧ nS (m0.1 1) s = n0 ∧ n0 ≤ 40 ∧ h0.1 20 2 = nI 0 ∧ m0.1 1 605 = nI 1 ∧ m0.1 1 606 = 1 ∧ m0.1 1 607 = nI B ∧ B ≤ 40 ∧ h0.1 14 5 = nI B ∧ m0.1 1 404 = nI B ∧ ∀ r, r < B → h0.1 15 r = m0.1 1 (405 + 5 * r) ∧ h0.1 16 r = m0.1 1 (405 + 5 * r + 1) ∧ h0.1 17 r = m0.1 1 (405 + 5 * r + 2) ∧ h0.1 18 r = m0.1 1 (405 + 5 * r + 3) ∧ h0.1 19 r = m0.1 1 (405 + 5 * r + 4)
def LE (h0 m0 : HP) (x y : Option (HP × Int32)) : Prop := ∃ h' m' r, x = some (h', r) ∧ y = some (m', r) ∧ RT h' 1 (m'.1 1) ∧ (∀ a, 29 ≤ a → h'.1 a = h0.1 a) ∧ keepMN m0 m'
section LO
variable {h0 m0 h m : HP} {s n0 B i : Nat}
set_option maxHeartbeats 400000 in
theorem load_end (hs : s < 2) (L0 : LB s n0 B h0 m0) (L : LI s n0 B h0 m0 h m) : LE h0 m0 (some (upI h 14 5 0, (upI h 14 5 0).1 (rc 1 s) 5 - nI n0)) (some (upI (upI m 1 605 0) 1 404 0, (upI m 1 605 0).1 1 404)) := by
  obtain ⟨V, R, en, g, no, hh, ww, mm⟩ := L
  obtain ⟨se, bv, cv, en0, l40, b20, b605, b606, b607, hB, b14, b404, -⟩ := L0
  have hrc : rc 1 s = 2 + 6 * s := by unfold rc; split <;> omega
  have ho : ∀ a, a ≠ 14 → (upI h 14 5 0).1 a = h.1 a := fun a ha => upI_at _ _ _ _ ha
  have wo : ∀ j, j ≠ 404 → j ≠ 605 → (upI (upI m 1 605 0) 1 404 0).1 1 j = m.1 1 j := fun j h1 h2 => by rw [upI_s, if_neg h1, upI_s, if_neg h2]
  have mo : ∀ a, a ≠ 1 → (upI (upI m 1 605 0) 1 404 0).1 a = m0.1 a := fun a ha => by rw [upI_at _ _ _ _ ha, upI_at _ _ _ _ ha]; exact mm a ha
  have a1 : (upI h 14 5 0).1 (rc 1 s) 5 - nI n0 = nI B := by
    rw [ho _ (by omega), (V.rv hs).2.1, en, pk_sub (by omega)]; congr 1; omega
  have a2 : (upI m 1 605 0).1 1 404 = nI B := by rw [upI_s, if_neg (by omega), ww 404 (by omega)]; exact b404
  rw [a1, a2]
  refine ⟨_, _, _, rfl, rfl, ⟨(V.cgt (fun a h1 h2 => ho a (by omega))).cgw R (fun j hj => wo j (by omega) (by omega)), R.cgw (fun j _ hj => wo j (by omega) (by omega)), ?_, ⟨0, by omega, by rw [upI_s, if_pos rfl]; rfl, by rw [upI_s, if_pos rfl]; rfl, fun r hr => by omega⟩, ⟨0, by omega, ?_, ?_, fun r hr => by omega⟩, ?_⟩, fun a ha => ?_, ⟨fun k hk => ?_, mo 2 (by decide), by rw [mo 0 (by decide)], mo 9 (by decide), by rw [mo 0 (by decide)]⟩⟩
  · rw [wo 0 (by omega) (by omega), wo 1 (by omega) (by omega), ww 0 (by omega), ww 1 (by omega)]; exact se
  · rw [ho _ (by omega), hh _ (by omega)]; exact b20
  · rw [upI_s, if_neg (by omega), upI_s, if_pos rfl]; rfl
  · refine (cv.cgt (fun a h1 h2 => ?_)).cgw (g.tr (grow.of R (fun j _ hj => wo j (by omega) (by omega)))) (fun j h1 h2 => ?_)
    · rw [ho _ (by omega), hh _ (by omega)]
    · rw [wo j (by omega) (by omega), ww j (by omega)]
  · rw [ho _ (by omega), hh _ (by omega)]
  · rw [wo _ (by omega) (by omega), ww _ (by omega)]
set_option maxHeartbeats 400000 in
theorem load_bad {h3 m2 : HP} {f mu : Int32} (hs : s < 2) (L0 : LB s n0 B h0 m0) (L : LI s n0 i h0 m0 h m) (hi : i < B) (X : trX h h3) (M : trM m m2) (t1 : h3.1 20 2 = nI 3) (t2 : h3.1 21 0 = 1 ∧ h3.1 21 1 = 2 ∧ h3.1 21 2 = f) (t3 : h3.1 22 0 = nI B ∧ h3.1 22 1 = nI i ∧ h3.1 22 2 = mu) (u1 : m2.1 1 605 = nI 3) (u2 : m2.1 1 606 = 1 ∧ m2.1 1 608 = 2 ∧ m2.1 1 610 = f) (u3 : m2.1 1 607 = nI B ∧ m2.1 1 609 = nI i ∧ m2.1 1 611 = mu) : LE h0 m0 (some (upI h3 (rc 1 s) 5 (nI n0), -1)) (some (upI m2 1 (2 + s) (nI n0), -1)) := by
  obtain ⟨V, R, en, g, no, hh, ww, mm⟩ := L
  obtain ⟨se, bv, cv, en0, l40, b20, b605, b606, b607, hB, b14, b404, -⟩ := L0
  have hrc : rc 1 s = 2 + 6 * s := by unfold rc; split <;> omega
  have ho : ∀ a, a ≠ rc 1 s → a ≠ 20 → a ≠ 21 → a ≠ 22 → (upI h3 (rc 1 s) 5 (nI n0)).1 a = h.1 a := fun a ha h1 h2 h3' => by rw [upI_at _ _ _ _ ha, X a h1 h2 h3']
  have wo : ∀ j, j ≠ 2 + s → (j < 605 ∨ 611 < j) → (upI m2 1 (2 + s) (nI n0)).1 1 j = m.1 1 j := fun j h1 h2 => by rw [upI_s, if_neg h1, M.2 j h2]
  have wt : ∀ j, 605 ≤ j → (upI m2 1 (2 + s) (nI n0)).1 1 j = m2.1 1 j := fun j h1 => by rw [upI_s, if_neg (by omega)]
  have mo : ∀ a, a ≠ 1 → (upI m2 1 (2 + s) (nI n0)).1 a = m0.1 a := fun a ha => by rw [upI_at _ _ _ _ ha, M.1 a ha]; exact mm a ha
  have h40 := (R s hs).2.1
  have fl : ∀ t r k, t < 2 → r < 40 → k < 5 → fld ((upI m2 1 (2 + s) (nI n0)).1 1) t r k = fld (m.1 1) t r k := fun t r k ht hr hk => by
    have := fld_lt ht hr hk
    exact wo _ (by omega) (by omega)
  have ns : nS ((upI m2 1 (2 + s) (nI n0)).1 1) s = n0 := by unfold nS; rw [upI_s, if_pos rfl, ix_nI (by omega)]
  have nt : ∀ t, t < 2 → t ≠ s → nS ((upI m2 1 (2 + s) (nI n0)).1 1) t = nS (m.1 1) t ∧ (upI m2 1 (2 + s) (nI n0)).1 1 (2 + t) = m.1 1 (2 + t) := fun t ht ne => by
    unfold nS; rw [wo (2 + t) (by omega) (by omega)]; exact ⟨rfl, rfl⟩
  have main : RV (upI h3 (rc 1 s) 5 (nI n0)) (rc 1 s) ((upI m2 1 (2 + s) (nI n0)).1 1) s (nS ((upI m2 1 (2 + s) (nI n0)).1 1) s) := by
    rw [ns]
    refine ⟨l40, by rw [upI_s, if_pos rfl], fun r hr => ?_⟩
    rw [fl s r 0 hs (by omega) (by omega), fl s r 1 hs (by omega) (by omega), fl s r 2 hs (by omega) (by omega), fl s r 3 hs (by omega) (by omega), fl s r 4 hs (by omega) (by omega), ho _ (by omega) (by omega) (by omega) (by omega), ho _ (by omega) (by omega) (by omega) (by omega), ho _ (by omega) (by omega) (by omega) (by omega), ho _ (by omega) (by omega) (by omega) (by omega), ho _ (by omega) (by omega) (by omega) (by omega)]
    exact (V.rv hs).2.2 r (by omega)
  have oth : ∀ t, t < 2 → t ≠ s → RV (upI h3 (rc 1 s) 5 (nI n0)) (rc 1 t) ((upI m2 1 (2 + s) (nI n0)).1 1) t (nS ((upI m2 1 (2 + s) (nI n0)).1 1) t) := fun t ht ne => by
    have hrt : rc 1 t = 2 + 6 * t := by unfold rc; split <;> omega
    have ht40 := (R t ht).2.1
    rw [(nt t ht ne).1]
    exact ((V.rv ht).cgh (fun a h1 h2 => ho a (by omega) (by omega) (by omega) (by omega))).cgw ht (fun r k hr hk => fl t r k ht (by omega) hk)
  have g2 : grow (m0.1 1) ((upI m2 1 (2 + s) (nI n0)).1 1) := fun t ht => by
    by_cases z : t = s
    · subst z
      rw [ns, en0]
      exact ⟨Nat.le_refl _, fun r k hr hk => by rw [fl t r k ht (by omega) hk]; exact (g t ht).2 r k (by omega) hk⟩
    · rw [(nt t ht z).1, no t ht z]
      have ht40 := (R t ht).2.1
      have e := no t ht z
      exact ⟨Nat.le_refl _, fun r k hr hk => by rw [fl t r k ht (by omega) hk]; exact (g t ht).2 r k hr hk⟩
  refine ⟨_, _, _, rfl, rfl, ⟨⟨?_, ?_, ?_, ?_⟩, fun t ht => ?_, ?_, ?_, ⟨3, by omega, ?_, ?_, fun j hj => ?_⟩, ?_⟩, fun a ha => ?_, ⟨fun k hk => ?_, mo 2 (by decide), by rw [mo 0 (by decide)], mo 9 (by decide), by rw [mo 0 (by decide)]⟩⟩
  · rw [ho 1 (by omega) (by omega) (by omega) (by omega), wo 0 (by omega) (by omega)]; exact V.1
  · rw [ho 1 (by omega) (by omega) (by omega) (by omega), wo 1 (by omega) (by omega)]; exact V.2.1
  · by_cases z : s = 0
    · subst z; exact main
    · exact oth 0 (by omega) (by omega)
  · by_cases z : s = 1
    · subst z; exact main
    · exact oth 1 (by omega) (by omega)
  · by_cases z : t = s
    · subst z
      rw [ns]
      refine ⟨by rw [upI_s, if_pos rfl], l40, fun r hr => ?_⟩
      unfold RowOk
      rw [fl t r 0 ht (by omega) (by omega), fl t r 1 ht (by omega) (by omega), fl t r 2 ht (by omega) (by omega), fl t r 3 ht (by omega) (by omega)]
      exact (R t ht).2.2 r (by omega)
    · have ht40 := (R t ht).2.1
      rw [(nt t ht z).1, (nt t ht z).2]
      refine ⟨(R t ht).1, ht40, fun r hr => ?_⟩
      unfold RowOk
      rw [fl t r 0 ht (by omega) (by omega), fl t r 1 ht (by omega) (by omega), fl t r 2 ht (by omega) (by omega), fl t r 3 ht (by omega) (by omega)]
      exact (R t ht).2.2 r hr
  · rw [wo 0 (by omega) (by omega), wo 1 (by omega) (by omega), ww 0 (by omega), ww 1 (by omega)]; exact se
  · exact (bv.cgt (fun a h1 h2 => by rw [ho a (by omega) (by omega) (by omega) (by omega), hh a (by omega)])).cgw (fun j h1 h2 => by rw [wo j (by omega) (by omega), ww j (by omega)])
  · rw [upI_at _ _ _ _ (by omega)]; exact t1
  · rw [wt 605 (by omega)]; exact u1
  · show (upI h3 (rc 1 s) 5 (nI n0)).1 21 j = _ ∧ (upI h3 (rc 1 s) 5 (nI n0)).1 22 j = _
    rw [upI_at _ _ _ _ (show 21 ≠ rc 1 s by omega), upI_at _ _ _ _ (show 22 ≠ rc 1 s by omega), wt (606 + 2 * j) (by omega), wt (606 + 2 * j + 1) (by omega)]
    rcases (show j = 0 ∨ j = 1 ∨ j = 2 by omega) with e | e | e <;> subst e
    · exact ⟨t2.1.trans u2.1.symm, t3.1.trans u3.1.symm⟩
    · exact ⟨t2.2.1.trans u2.2.1.symm, t3.2.1.trans u3.2.1.symm⟩
    · exact ⟨t2.2.2.trans u2.2.2.symm, t3.2.2.trans u3.2.2.symm⟩
  · exact (cv.cgt (fun a h1 h2 => by rw [ho a (by omega) (by omega) (by omega) (by omega), hh a (by omega)])).cgw g2 (fun j h1 h2 => by rw [wo j (by omega) (by omega), ww j (by omega)])
  · rw [ho a (by omega) (by omega) (by omega) (by omega), hh a (by omega)]
  · rw [wo _ (by omega) (by omega), ww _ (by omega)]
set_option maxHeartbeats 2000000 in
theorem load_X {a1 a2 a3 a4 a5 : Int32} {cc : Nat} {v4 : Int32} (hB : B ≤ 40) (hi : i < B) (e0 : h.1 14 5 = nI B) (e1 : h.1 15 i = a1) (e2 : h.1 16 i = a2) (e3 : h.1 17 i = a3) (e4 : h.1 18 i = a4) (e5 : h.1 19 i = a5) : f_TJ_load_b98 0 h 14 cc v4 (nI i) = ((f_Ro_faultOf cc h a1 a2 a3 a4).bind fun r12 => (if r12 = 0 then ((f_Ro_append cc h a1 a2 a3 a4 a5).bind fun p_r19 => some (Sum.inl (p_r19.1, nI (i + 1)))) else Option.map Sum.inr (((f_Tr_because 20 h 1 (nI B)).bind fun h22 => ((f_Tr_because 20 h22 2 (nI i)).bind fun h24 => ((f_Ro_measureOf cc h24 r12 (h24.1 15 i) (h24.1 16 i) (h24.1 17 i) (h24.1 18 i)).bind fun r29 => ((f_Tr_because 20 h24 r12 r29).bind fun h31 => some ((upI h31 cc 5 v4), (-1))))))))) := by
  have bi : inb (nI i) 40 := inb_nI (by omega) (by decide)
  unfold f_TJ_load_b98
  simp only [Nat.zero_add, Nat.reduceAdd, if_pos bi, ix_nI (show i < 2 ^ 31 by omega), e0, e1, e2, e3, e4, e5, if_neg (nI_ge hi (show B < 2 ^ 31 by omega)), nI_1]
set_option maxHeartbeats 2000000 in
theorem load_M {a1 a2 a3 a4 a5 v2 : Int32} (hs : s < 2) (hB : B ≤ 40) (hi : i < B) (e0 : m.1 1 404 = nI B) (e1 : m.1 1 (405 + 5 * i) = a1) (e2 : m.1 1 (405 + 5 * i + 1) = a2) (e3 : m.1 1 (405 + 5 * i + 2) = a3) (e4 : m.1 1 (405 + 5 * i + 3) = a4) (e5 : m.1 1 (405 + 5 * i + 4) = a5) : f_Mo_load_b79 0 m (nI s) v2 (nI i) = ((f_Mo_comes 0 m (nI s) (nI i) a1 a2 a3 a4 a5).bind fun p_r16 => (if p_r16.2 = 0 then Option.map Sum.inr (some ((upI p_r16.1 1 (2 + s) v2), (-1))) else some (Sum.inl (p_r16.1, nI (i + 1))))) := by
  have l0 : (405 : Int32) + 5 * nI i = nI (405 + 5 * i) := lin1 405 5 i
  have l1 : nI (405 + 5 * i) + 0 = nI (405 + 5 * i) := Int32.add_zero _
  have l2 : nI (405 + 5 * i) + 1 = nI (405 + 5 * i + 1) := nI_1 _
  have l3 : nI (405 + 5 * i) + 2 = nI (405 + 5 * i + 2) := nI_add _ 2
  have l4 : nI (405 + 5 * i) + 3 = nI (405 + 5 * i + 3) := nI_add _ 3
  have l5 : nI (405 + 5 * i) + 4 = nI (405 + 5 * i + 4) := nI_add _ 4
  have i1 : inb (nI (405 + 5 * i)) 4100 := inb_nI (by omega) (by decide)
  have i2 : inb (nI (405 + 5 * i + 1)) 4100 := inb_nI (by omega) (by decide)
  have i3 : inb (nI (405 + 5 * i + 2)) 4100 := inb_nI (by omega) (by decide)
  have i4 : inb (nI (405 + 5 * i + 3)) 4100 := inb_nI (by omega) (by decide)
  have i5 : inb (nI (405 + 5 * i + 4)) 4100 := inb_nI (by omega) (by decide)
  unfold f_Mo_load_b79
  rw [Nat.zero_add, ix404, e0, if_neg (nI_ge hi (show B < 2 ^ 31 by omega)), l0, l1, l2, l3, l4, l5, if_pos i1, if_pos i2, if_pos i3, if_pos i4, if_pos i5, ix_nI (show 405 + 5 * i < 2 ^ 31 by omega), ix_nI (show 405 + 5 * i + 1 < 2 ^ 31 by omega), ix_nI (show 405 + 5 * i + 2 < 2 ^ 31 by omega), ix_nI (show 405 + 5 * i + 3 < 2 ^ 31 by omega), ix_nI (show 405 + 5 * i + 4 < 2 ^ 31 by omega), e1, e2, e3, e4, e5, nI_1, (many_ix hs rfl).2]
  simp only [if_pos (many_ix hs rfl).1]
set_option maxHeartbeats 400000 in
theorem load_last {hx mx : HP} {cc : Nat} {v4 v1 v5 : Int32} {x y : HP × Int32} (a : f_TJ_load_b98 0 h 14 cc v4 v5 = some (Sum.inr x)) (b : f_Mo_load_b79 0 m v1 v4 v5 = some (Sum.inr y)) (p : LE h0 m0 (some x) (some y)) : LE h0 m0 (f_TJ_load_l98 0 hx 14 cc v4 (h, v5)) (f_Mo_load_l79 0 mx v1 v4 (m, v5)) := by
  have e1 : f_TJ_load_l98 0 hx 14 cc v4 (h, v5) = some x := loop_inr a
  have e2 : f_Mo_load_l79 0 mx v1 v4 (m, v5) = some y := loop_inr b
  rw [e1, e2]; exact p
set_option maxHeartbeats 400000 in
theorem load_next {h' m' hx mx : HP} {cc : Nat} {v4 v1 v5 v6 : Int32} (a : f_TJ_load_b98 0 h 14 cc v4 v5 = some (Sum.inl (h', v6))) (b : f_Mo_load_b79 0 m v1 v4 v5 = some (Sum.inl (m', v6))) (p : LE h0 m0 (f_TJ_load_l98 0 hx 14 cc v4 (h', v6)) (f_Mo_load_l79 0 mx v1 v4 (m', v6))) : LE h0 m0 (f_TJ_load_l98 0 hx 14 cc v4 (h, v5)) (f_Mo_load_l79 0 mx v1 v4 (m, v5)) := by
  have e1 : f_TJ_load_l98 0 hx 14 cc v4 (h, v5) = f_TJ_load_l98 0 hx 14 cc v4 (h', v6) := loop_inl a
  have e2 : f_Mo_load_l79 0 mx v1 v4 (m, v5) = f_Mo_load_l79 0 mx v1 v4 (m', v6) := loop_inl b
  rw [e1, e2]; exact p
set_option maxHeartbeats 2000000 in
theorem load_loop (hs : s < 2) (L0 : LB s n0 B h0 m0) (hx mx : HP) : ∀ d i h m, i + d = B → LI s n0 i h0 m0 h m → LE h0 m0 (f_TJ_load_l98 0 hx 14 (rc 1 s) (nI n0) (h, nI i)) (f_Mo_load_l79 0 mx (nI s) (nI n0) (m, nI i))
  | 0, i, h, m, hd, L => by
    have hiB : i = B := by omega
    subst hiB
    obtain ⟨h', m', r, e1, e2, post⟩ := load_end hs L0 L
    obtain ⟨V, R, en, g, no, hh, ww, mm⟩ := L
    obtain ⟨se, bv, cv, en0, l40, b20, b605, b606, b607, hB, b14, b404, -⟩ := L0
    refine ⟨h', m', r, ?_, ?_, post⟩
    · unfold f_TJ_load_l98
      refine loop_inr ?_
      show f_TJ_load_b98 0 h 14 (rc 1 s) (nI n0) (nI i) = _
      unfold f_TJ_load_b98
      rw [hh 14 (by omega), b14, if_pos (nle _), e1]; rfl
    · unfold f_Mo_load_l79
      refine loop_inr ?_
      show f_Mo_load_b79 0 m (nI s) (nI n0) (nI i) = _
      unfold f_Mo_load_b79 f_Mo_clear
      simp only [Nat.zero_add, ix404, ix605]
      rw [ww 404 (by omega), b404, if_pos (nle _)]
      simp only [Option.bind_some]
      rw [e2]; rfl
  | d + 1, i, h, m, hd, L => by
    have L' := L
    obtain ⟨V, R, en, g, no, hh, ww, mm⟩ := L
    have L0' := L0
    obtain ⟨se, bv, cv, en0, l40, b20, b605, b606, b607, hB, b14, b404, rows⟩ := L0
    have hiB : i < B := by omega
    have hrc : rc 1 s = 2 + 6 * s := by unfold rc; split <;> omega
    obtain ⟨x1, x2, x3, x4, x5⟩ := rows i hiB
    have y1 := hh 15 (by omega)
    have y2 := hh 16 (by omega)
    have y3 := hh 17 (by omega)
    have y4 := hh 18 (by omega)
    have Xb := load_X (h := h) (cc := rc 1 s) (v4 := nI n0) hB hiB (by rw [hh 14 (by omega)]; exact b14) (show h.1 15 i = m0.1 1 (405 + 5 * i) by rw [y1]; exact x1) (show h.1 16 i = m0.1 1 (405 + 5 * i + 1) by rw [y2]; exact x2) (show h.1 17 i = m0.1 1 (405 + 5 * i + 2) by rw [y3]; exact x3) (show h.1 18 i = m0.1 1 (405 + 5 * i + 3) by rw [y4]; exact x4) (show h.1 19 i = m0.1 1 (405 + 5 * i + 4) by rw [hh 19 (by omega)]; exact x5)
    have Mb := load_M (m := m) (v2 := nI n0) hs hB hiB (by rw [ww 404 (by omega)]; exact b404) (ww (405 + 5 * i) (by omega)) (ww (405 + 5 * i + 1) (by omega)) (ww (405 + 5 * i + 2) (by omega)) (ww (405 + 5 * i + 3) (by omega)) (ww (405 + 5 * i + 4) (by omega))
    clear rows
    generalize m0.1 1 (405 + 5 * i) = a1 at *
    generalize m0.1 1 (405 + 5 * i + 1) = a2 at *
    generalize m0.1 1 (405 + 5 * i + 2) = a3 at *
    generalize m0.1 1 (405 + 5 * i + 3) = a4 at *
    generalize m0.1 1 (405 + 5 * i + 4) = a5 at *
    rcases comes_both V R hs (nI i) a1 a2 a3 a4 a5 with ⟨hn, f0, c1, c2, c3, cm⟩ | ⟨f, mu, f0, f1, f2, f3⟩
    · have hv2 := (V.rv hs).2.1
      rw [f0, X_append hv2 hn] at Xb
      simp only [Option.bind_some, if_true] at Xb
      rw [cm] at Mb
      simp only [Option.bind_some, if_neg one0] at Mb
      have ih := load_loop hs L0' hx mx d (i + 1) _ _ (by omega) (⟨cmr_sv V R hs hn rfl, cmr_rows R hs hn rfl c1 c2 c3, ?_, g.tr (cmr_grow R hs hn rfl), fun t ht ne => ?_, fun a ha => ?_, fun j hj => ?_, fun a ha => ?_⟩ : LI s n0 (i + 1) h0 m0 (apH h (rc 1 s) (nS (m.1 1) s) a1 a2 a3 a4 a5) (cmM m s (nS (m.1 1) s) a1 a2 a3 a4 a5))
      · exact load_next Xb Mb ih
      · rw [(cmr_n hs hn).1, en]; omega
      · rw [(cmr_no hs hn ht ne).1]; exact no t ht ne
      · rw [apH_fr (by omega)]; exact hh a ha
      · rw [cmr_out hs hn (by omega)]; exact ww j hj
      · rw [cmr_fr ha]; exact mm a ha
    · obtain ⟨h1, e1, p1, p2, p3, X1⟩ := X_because (h := h) (n := 0) (by rw [hh 20 (by omega)]; exact b20) (by omega) 1 (nI B)
      obtain ⟨h2, e2, p4, p5, p6, X2⟩ := X_because p1 (by omega) 2 (nI i)
      obtain ⟨h3, e3, p7, p8, p9, X3⟩ := X_because p4 (by omega) f mu
      obtain ⟨m1, d1, q1, q2, q3, M1⟩ := M_causes (m := m) (n := 1) (by rw [ww 605 (by omega)]; exact b605) (by omega) 2 (nI i)
      obtain ⟨m2, d2, q4, q5, q6, M2⟩ := M_causes q1 (by omega) f mu
      have X12 := X1.tr X2
      have z1 : h2.1 15 i = a1 := by rw [X12 15 (by omega) (by omega) (by omega), y1]; exact x1
      have z2 : h2.1 16 i = a2 := by rw [X12 16 (by omega) (by omega) (by omega), y2]; exact x2
      have z3 : h2.1 17 i = a3 := by rw [X12 17 (by omega) (by omega) (by omega), y3]; exact x3
      have z4 : h2.1 18 i = a4 := by rw [X12 18 (by omega) (by omega) (by omega), y4]; exact x4
      rw [f1] at Xb
      simp only [Option.bind_some, if_neg f0] at Xb
      rw [e1] at Xb
      simp only [Option.bind_some] at Xb
      rw [e2] at Xb
      simp only [Option.bind_some] at Xb
      rw [z1, z2, z3, z4, f2 h2 (fun a ha => X12 a (by omega) (by omega) (by omega))] at Xb
      simp only [Option.bind_some] at Xb
      rw [e3] at Xb
      rw [f3 m1 m2 M1 d1 d2] at Mb
      simp only [Option.bind_some, if_true] at Mb
      have t2 : h3.1 21 0 = 1 ∧ h3.1 21 1 = 2 ∧ h3.1 21 2 = f := by
        refine ⟨?_, ?_, ?_⟩
        · rw [p8, if_neg (by decide), p5, if_neg (by decide), p2, if_pos rfl]
        · rw [p8, if_neg (by decide), p5, if_pos rfl]
        · rw [p8, if_pos rfl]
      have t3 : h3.1 22 0 = nI B ∧ h3.1 22 1 = nI i ∧ h3.1 22 2 = mu := by
        refine ⟨?_, ?_, ?_⟩
        · rw [p9, if_neg (by decide), p6, if_neg (by decide), p3, if_pos rfl]
        · rw [p9, if_neg (by decide), p6, if_pos rfl]
        · rw [p9, if_pos rfl]
      have u2 : m2.1 1 606 = 1 ∧ m2.1 1 608 = 2 ∧ m2.1 1 610 = f := by
        refine ⟨?_, ?_, ?_⟩
        · have a := q5 0
          have b := q2 0
          rw [if_neg (by decide)] at a b
          exact a.trans (b.trans ((ww 606 (by omega)).trans b606))
        · have a := q5 1
          have b := q2 1
          rw [if_neg (by decide)] at a
          rw [if_pos rfl] at b
          exact a.trans b
        · have a := q5 2
          rw [if_pos rfl] at a
          exact a
      have u3 : m2.1 1 607 = nI B ∧ m2.1 1 609 = nI i ∧ m2.1 1 611 = mu := by
        refine ⟨?_, ?_, ?_⟩
        · have a := q6 0
          have b := q3 0
          rw [if_neg (by decide)] at a b
          exact a.trans (b.trans ((ww 607 (by omega)).trans b607))
        · have a := q6 1
          have b := q3 1
          rw [if_neg (by decide)] at a
          rw [if_pos rfl] at b
          exact a.trans b
        · have a := q6 2
          rw [if_pos rfl] at a
          exact a
      have post := load_bad (f := f) (mu := mu) hs L0' L' hiB (X12.tr X3) (M1.tr M2) p7 t2 t3 q4 u2 u3
      exact load_last Xb Mb post
end LO
set_option maxHeartbeats 400000 in
theorem q_load {h m : HP} (S : RT h 1 (m.1 1)) (v1 : Int32) : AlikeS h m (f_TJ_load 0 h v1) (f_Mo_load 0 m v1) := by
  obtain ⟨e1, T1, X1, M1⟩ := forget_both h m
  have U1 := S.ru.cgt X1 M1
  obtain ⟨r1, r2, r3⟩ := U1.2.2.2.2.run
  unfold f_TJ_load f_Mo_load f_Mo_isSweeping
  simp only [Nat.zero_add, Nat.reduceAdd, ix605, ix614, ix404]
  rw [e1]
  simp only [Option.bind_some]
  generalize upI h 20 2 0 = h1 at *
  generalize upI m 1 605 0 = m1 at *
  rw [X_isSide, M_isSide]
  simp only [Option.bind_some]
  obtain ⟨B, hB, b1, b2, b3⟩ := U1.2.2.2.1
  replace b1 : h1.1 14 5 = nI B := b1
  by_cases hv : v1 = 0 ∨ v1 = 1
  · obtain ⟨s, hs, rfl⟩ := side_in hv
    have hrc : rc 1 s = 2 + 6 * s := by unfold rc; split <;> omega
    rw [if_pos hv, if_neg one0, if_neg one0, r1]
    rcases r2 with z | z
    · rw [z, if_pos rfl, if_neg (show ¬ (0 : Int32) = 1 by decide)]
      simp only [Option.bind_some, if_true]
      rw [X_rowsOf hs rfl]
      simp only [Option.bind_some]
      obtain ⟨m2, d1, q1, q2, q3, M2⟩ := M_causes (m := m1) (n := 0) T1.2.2.1 (by omega) 1 (nI B)
      have U2 := U1.cgt (trX.rf) M2
      have vr := (U1.1.rv hs).2.1
      rw [if_pos (many_ix hs rfl).1, (many_ix hs rfl).2, b2, d1, vr, (U1.2.1 s hs).1]
      simp only [Option.bind_some]
      have nn : nS (m2.1 1) s = nS (m1.1 1) s := nS_cg (fun j _ hj => M2.2 j (by omega)) hs
      have L0 : LB s (nS (m1.1 1) s) B h1 m2 := ⟨U2.2.2.1, U2.2.2.2.1, U2.2.2.2.2, nn, (U1.2.1 s hs).2.1, T1.2.1, q1, (q2 0).trans (if_pos rfl), (q3 0).trans (if_pos rfl), hB, b1, by rw [M2.2 404 (by omega)]; exact b2, fun r hr => by
        rw [M2.2 _ (by omega), M2.2 _ (by omega), M2.2 _ (by omega), M2.2 _ (by omega), M2.2 _ (by omega)]
        exact b3 r hr⟩
      obtain ⟨h', m', r, g1, g2, p1, p2, p3⟩ := load_loop hs L0 h1 m2 B 0 h1 m2 (by omega) ⟨U2.1, U2.2.1, by rw [nn]; omega, grow.rf _, fun _ _ _ => rfl, fun _ _ => rfl, fun _ _ => rfl, fun _ _ => rfl⟩
      exact ⟨h', m', r, g1, g2, p1, X1.net.tr ⟨p2 29 (by omega), p2 30 (by omega), p2 31 (by omega)⟩, (M1.tr M2).net.tr p3⟩
    · obtain ⟨h2, m2, e2, e3, T2, X2, M2⟩ := because_both T1 (by omega) 1 (nI B)
      have g615 : h2.1 23 2 = m2.1 1 615 := by
        rw [X2 23 (by decide) (by decide) (by decide), M2.2 615 (by omega)]; exact r3
      obtain ⟨h3, m3, e4, e5, T3, X3, M3⟩ := because_both T2 (by omega) 8 (m2.1 1 615)
      rw [z, if_neg one0, if_pos rfl]
      simp only [Option.bind_some]
      rw [if_neg one0, b1, b2, e2, e3]
      simp only [Option.bind_some, ix615]
      rw [g615, e4, e5]
      exact ⟨h3, m3, -1, rfl, rfl, (U1.cgt (X2.tr X3) (M2.tr M3)).rt T3.tv, X1.net.tr (X2.tr X3).net, M1.net.tr (M2.tr M3).net⟩
  · rw [if_neg hv, if_pos rfl, if_pos rfl]
    exact ⟨h1, m1, -2, rfl, rfl, U1.rt T1.tv, X1.net, M1.net⟩
