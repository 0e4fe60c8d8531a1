/-! settings, batch, leave: both sides keep the state alike -/
def keepNet (h h' : HP) : Prop := h'.1 29 = h.1 29 ∧ h'.1 30 = h.1 30 ∧ h'.1 31 = h.1 31
def keepMN (m m' : HP) : Prop := (∀ k, k < 36 → m'.1 1 (4064 + k) = m.1 1 (4064 + k)) ∧ m'.1 2 = m.1 2 ∧ m'.1 0 2 = m.1 0 2 ∧ m'.1 9 = m.1 9 ∧ m'.1 0 12 = m.1 0 12
/-- both do alike: one answer, states that stand together again -/
def AlikeS (h m : HP) (x y : Option (HP × Int32)) : Prop := ∃ h' m' r, x = some (h', r) ∧ y = some (m', r) ∧ RT h' 1 (m'.1 1) ∧ keepNet h h' ∧ keepMN m m'
set_option maxHeartbeats 400000 in
theorem fld_lt {s r k : Nat} (hs : s < 2) (hr : r < 40) (hk : k < 5) : 4 ≤ 4 + 5 * (40 * s + r) + k ∧ 4 + 5 * (40 * s + r) + k < 404 := by omega
set_option maxHeartbeats 400000 in
theorem fld_cg {w w' : Nat → Int32} (e : ∀ j, 2 ≤ j → j < 404 → w' j = w j) {s r k : Nat} (hs : s < 2) (hr : r < 40) (hk : k < 5) : fld w' s r k = fld w s r k := by
  have := fld_lt hs hr hk
  exact e _ (by omega) (by omega)
set_option maxHeartbeats 400000 in
theorem nS_cg {w w' : Nat → Int32} (e : ∀ j, 2 ≤ j → j < 404 → w' j = w j) {s : Nat} (hs : s < 2) : nS w' s = nS w s := by
  unfold nS; rw [e _ (by omega) (by omega)]
set_option maxHeartbeats 400000 in
theorem RV.cgw {h : HP} {cc : Nat} {w w' : Nat → Int32} {s n : Nat} (hs : s < 2) (V : RV h cc w s n) (e : ∀ r k, r < n → k < 5 → fld w' s r k = fld w s r k) : RV h cc w' s n :=
  ⟨V.1, V.2.1, fun r hr => by rw [e r 0 hr (by omega), e r 1 hr (by omega), e r 2 hr (by omega), e r 3 hr (by omega), e r 4 hr (by omega)]; exact V.2.2 r hr⟩
set_option maxHeartbeats 400000 in
theorem RowsOk.cgw {w w' : Nat → Int32} (R : RowsOk w) (e : ∀ j, 2 ≤ j → j < 404 → w' j = w j) : RowsOk w' := by
  intro s hs
  have hn := (R s hs).2.1
  rw [nS_cg e hs, e _ (by omega) (by omega)]
  refine ⟨(R s hs).1, hn, fun r hr => ?_⟩
  unfold RowOk
  rw [fld_cg e hs (by omega) (show 0 < 5 by omega), fld_cg e hs (by omega) (show 1 < 5 by omega), fld_cg e hs (by omega) (show 2 < 5 by omega), fld_cg e hs (by omega) (show 3 < 5 by omega)]
  exact (R s hs).2.2 r hr
set_option maxHeartbeats 400000 in
theorem SV.cgw {h : HP} {b : Nat} {w w' : Nat → Int32} (V : SV h b w) (R : RowsOk w) (e : ∀ j, j < 404 → w' j = w j) : SV h b w' := by
  have e2 : ∀ j, 2 ≤ j → j < 404 → w' j = w j := fun j _ h => e j h
  refine ⟨by rw [e 0 (by omega)]; exact V.1, by rw [e 1 (by omega)]; exact V.2.1, ?_, ?_⟩
  · rw [nS_cg e2 (by omega)]
    exact V.2.2.1.cgw (by omega) (fun r k hr hk => fld_cg e2 (by omega) (by have := (R 0 (by omega)).2.1; omega) hk)
  · rw [nS_cg e2 (by omega)]
    exact V.2.2.2.cgw (by omega) (fun r k hr hk => fld_cg e2 (by omega) (by have := (R 1 (by omega)).2.1; omega) hk)
set_option maxHeartbeats 400000 in
theorem BV.cgw {h : HP} {b : Nat} {w w' : Nat → Int32} (V : BV h b w) (e : ∀ j, 404 ≤ j → j < 605 → w' j = w j) : BV h b w' := by
  obtain ⟨n, h1, h2, h3, h4⟩ := V
  refine ⟨n, h1, h2, by rw [e 404 (by omega) (by omega)]; exact h3, fun r hr => ?_⟩
  rw [e _ (by omega) (by omega), e _ (by omega) (by omega), e _ (by omega) (by omega), e _ (by omega) (by omega), e _ (by omega) (by omega)]
  exact h4 r hr
set_option maxHeartbeats 400000 in
theorem TV.cgw {h : HP} {b : Nat} {w w' : Nat → Int32} (V : TV h b w) (e : ∀ j, 605 ≤ j → j < 612 → w' j = w j) : TV h b w' := by
  obtain ⟨n, h1, h2, h3, h4⟩ := V
  refine ⟨n, h1, h2, by rw [e 605 (by omega) (by omega)]; exact h3, fun r hr => ?_⟩
  rw [e _ (by omega) (by omega), e _ (by omega) (by omega)]
  exact h4 r hr
/-- rows may come, those that are there stay -/
def grow (w w' : Nat → Int32) : Prop := ∀ s, s < 2 → nS w s ≤ nS w' s ∧ ∀ r k, r < nS w s → k < 5 → fld w' s r k = fld w s r k
set_option maxHeartbeats 400000 in
theorem grow.rf (w : Nat → Int32) : grow w w := fun _ _ => ⟨Nat.le_refl _, fun _ _ _ _ => rfl⟩
set_option maxHeartbeats 400000 in
theorem grow.of {w w' : Nat → Int32} (R : RowsOk w) (e : ∀ j, 2 ≤ j → j < 404 → w' j = w j) : grow w w' := fun s hs => by
  have hn := (R s hs).2.1
  exact ⟨by rw [nS_cg e hs]; exact Nat.le_refl _, fun r k hr hk => fld_cg e hs (by omega) hk⟩
set_option maxHeartbeats 400000 in
theorem grow.tr {w w' w'' : Nat → Int32} (a : grow w w') (b : grow w' w'') : grow w w'' := fun s hs =>
  ⟨Nat.le_trans (a s hs).1 (b s hs).1, fun r k hr hk => ((b s hs).2 r k (Nat.lt_of_lt_of_le hr (a s hs).1) hk).trans ((a s hs).2 r k hr hk)⟩
set_option maxHeartbeats 400000 in
theorem CV.cgw {h : HP} {b : Nat} {w w' : Nat → Int32} (V : CV h b w) (g : grow w w') (e : ∀ j, 614 ≤ j → j < 4064 → w' j = w j) : CV h b w' := by
  obtain ⟨T, G, np, E, AC, A, c1, c2, c3, c4, ⟨w1, w2, w3, w4, w5⟩, x, y1, y2, y3, p⟩ := V
  have hnp := np_le c4
  have pe : ∀ k, k < T → evC w' (E k) = evC w (E k) ∧ ruE w' (E k) = ruE w (E k) := fun k hk => by
    obtain ⟨h1, h2⟩ := c2.1 k hk
    have hs := sE_lt h1
    have f := (g _ hs).2
    unfold evC ruE plE sp ep
    rw [f _ 0 h2 (by omega), f _ 2 h2 (by omega), f _ 3 h2 (by omega)]
    exact ⟨rfl, rfl⟩
  refine ⟨T, G, np, E, AC, A, ⟨c1.1, c1.2.1, by rw [e 614 (by omega) (by omega)]; exact c1.2.2⟩, ⟨fun k hk => ⟨(c2.1 k hk).1, Nat.lt_of_lt_of_le (c2.1 k hk).2 (g _ (sE_lt (c2.1 k hk).1)).1⟩, c2.2⟩, c3, c4, ⟨by rw [e 615 (by omega) (by omega)]; exact w1, by rw [e 616 (by omega) (by omega)]; exact w2, fun k hk => ?_, fun s hs => ?_, by rw [e 863 (by omega) (by omega)]; exact w5⟩, ?_, fun k hk => ?_, y2, fun u hu => ?_, fun i hi => ?_⟩
  · have := c1.1
    rw [e _ (by omega) (by omega)]; exact w3 k hk
  · have := AC_40 c3 hs
    rw [e _ (by omega) (by omega)]
    exact ⟨(w4 s hs).1, fun i hi => by rw [e _ (by omega) (by omega)]; exact (w4 s hs).2 i hi⟩
  · rw [e 614 (by omega) (by omega), e 617 (by omega) (by omega), e 618 (by omega) (by omega), e 619 (by omega) (by omega), e 620 (by omega) (by omega)]
    exact x
  · rw [y1 k hk, (pe k hk).1]
  · rw [y3 u hu]; exact congrArg nI (cN_congr T (fun k hk => by rw [(pe k hk).2]))
  · obtain ⟨l, r, hl, hr, p1, p2, p3⟩ := p i hi
    refine ⟨l, r, Nat.lt_of_lt_of_le hl (g 0 (by omega)).1, Nat.lt_of_lt_of_le hr (g 1 (by omega)).1, ?_, ?_, p3⟩
    · rw [e _ (by omega) (by omega)]; exact p1
    · rw [e _ (by omega) (by omega)]; exact p2
/-! trouble -/
def trX (h h' : HP) : Prop := ∀ a, a ≠ 20 → a ≠ 21 → a ≠ 22 → h'.1 a = h.1 a
def trM (m m' : HP) : Prop := (∀ a, a ≠ 1 → m'.1 a = m.1 a) ∧ ∀ j, (j < 605 ∨ 611 < j) → m'.1 1 j = m.1 1 j
set_option maxHeartbeats 400000 in
theorem trX.rf {h : HP} : trX h h := fun _ _ _ _ => rfl
set_option maxHeartbeats 400000 in
theorem trM.rf {m : HP} : trM m m := ⟨fun _ _ => rfl, fun _ _ => rfl⟩
set_option maxHeartbeats 400000 in
theorem trX.tr {h h' h'' : HP} (a : trX h h') (b : trX h' h'') : trX h h'' := fun x h1 h2 h3 => (b x h1 h2 h3).trans (a x h1 h2 h3)
set_option maxHeartbeats 400000 in
theorem trM.tr {m m' m'' : HP} (a : trM m m') (b : trM m' m'') : trM m m'' := ⟨fun x h => (b.1 x h).trans (a.1 x h), fun j h => (b.2 j h).trans (a.2 j h)⟩
set_option maxHeartbeats 400000 in
theorem trX.net {h h' : HP} (a : trX h h') : keepNet h h' := ⟨a 29 (by decide) (by decide) (by decide), a 30 (by decide) (by decide) (by decide), a 31 (by decide) (by decide) (by decide)⟩
set_option maxHeartbeats 400000 in
theorem trM.net {m m' : HP} (a : trM m m') : keepMN m m' := ⟨fun k _ => a.2 _ (by omega), a.1 2 (by decide), by rw [a.1 0 (by decide)], a.1 9 (by decide), by rw [a.1 0 (by decide)]⟩
set_option maxHeartbeats 400000 in
theorem keepNet.rf {h : HP} : keepNet h h := ⟨rfl, rfl, rfl⟩
set_option maxHeartbeats 400000 in
theorem keepMN.rf {m : HP} : keepMN m m := ⟨fun _ _ => rfl, rfl, rfl, rfl, rfl⟩
set_option maxHeartbeats 400000 in
theorem keepNet.tr {h h' h'' : HP} (a : keepNet h h') (b : keepNet h' h'') : keepNet h h'' := ⟨b.1.trans a.1, b.2.1.trans a.2.1, b.2.2.trans a.2.2⟩
set_option maxHeartbeats 400000 in
theorem keepMN.tr {m m' m'' : HP} (a : keepMN m m') (b : keepMN m' m'') : keepMN m m'' := ⟨fun k hk => (b.1 k hk).trans (a.1 k hk), b.2.1.trans a.2.1, b.2.2.1.trans a.2.2.1, b.2.2.2.1.trans a.2.2.2.1, b.2.2.2.2.trans a.2.2.2.2⟩
/-- all but trouble -/
def RU (h : HP) (b : Nat) (w : Nat → Int32) : Prop := SV h b w ∧ RowsOk w ∧ ((w 0 = 0 ∨ w 0 = 1) ∧ w 1 &&& 2044 = w 1) ∧ BV h b w ∧ CV h b w
set_option maxHeartbeats 400000 in
theorem RT.ru {h : HP} {b : Nat} {w : Nat → Int32} (S : RT h b w) : RU h b w := ⟨S.1, S.2.1, S.2.2.1, S.2.2.2.1, S.2.2.2.2.2⟩
set_option maxHeartbeats 400000 in
theorem RU.rt {h : HP} {b : Nat} {w : Nat → Int32} (S : RU h b w) (V : TV h b w) : RT h b w := ⟨S.1, S.2.1, S.2.2.1, S.2.2.2.1, V, S.2.2.2.2⟩
set_option maxHeartbeats 400000 in
theorem CV.cgt {h h' : HP} {w : Nat → Int32} (S : CV h 1 w) (e : ∀ a, 23 ≤ a → a < 29 → h'.1 a = h.1 a) : CV h' 1 w := by
  unfold CV CVd; rw [e (1 + 22) (by omega) (by omega), e (1 + 23) (by omega) (by omega), e (1 + 24) (by omega) (by omega), e (1 + 25) (by omega) (by omega), e (1 + 26) (by omega) (by omega), e (1 + 27) (by omega) (by omega)]; exact S
set_option maxHeartbeats 400000 in
theorem BV.cgt {h h' : HP} {w : Nat → Int32} (S : BV h 1 w) (e : ∀ a, 14 ≤ a → a < 20 → h'.1 a = h.1 a) : BV h' 1 w := by
  unfold BV; rw [e (1 + 13) (by omega) (by omega), e (1 + 14) (by omega) (by omega), e (1 + 15) (by omega) (by omega), e (1 + 16) (by omega) (by omega), e (1 + 17) (by omega) (by omega), e (1 + 18) (by omega) (by omega)]; exact S
set_option maxHeartbeats 400000 in
theorem SV.cgt {h h' : HP} {w : Nat → Int32} (S : SV h 1 w) (e : ∀ a, 1 ≤ a → a < 14 → h'.1 a = h.1 a) : SV h' 1 w :=
  ⟨by rw [e 1 (by omega) (by omega)]; exact S.1, by rw [e 1 (by omega) (by omega)]; exact S.2.1, S.2.2.1.cgh (fun a h1 h2 => e a (by omega) (by omega)), S.2.2.2.cgh (fun a h1 h2 => e a (by omega) (by omega))⟩
set_option maxHeartbeats 400000 in
theorem RU.cgt {h h' m m' : HP} (S : RU h 1 (m.1 1)) (X : trX h h') (M : trM m m') : RU h' 1 (m'.1 1) := by
  have e : ∀ j, j < 605 → m'.1 1 j = m.1 1 j := fun j hj => M.2 j (Or.inl hj)
  refine ⟨(S.1.cgt (fun a h1 h2 => X a (by omega) (by omega) (by omega))).cgw S.2.1 (fun j hj => e j (by omega)), S.2.1.cgw (fun j _ hj => e j (by omega)), ?_, (S.2.2.2.1.cgt (fun a h1 h2 => X a (by omega) (by omega) (by omega))).cgw (fun j _ hj => e j hj), (S.2.2.2.2.cgt (fun a h1 h2 => X a (by omega) (by omega) (by omega))).cgw (grow.of S.2.1 (fun j _ hj => e j (by omega))) (fun j h1 _ => M.2 j (Or.inr (by omega)))⟩
  rw [e 0 (by omega), e 1 (by omega)]; exact S.2.2.1
def TVn (n : Nat) (h : HP) (w : Nat → Int32) : Prop := n ≤ 3 ∧ h.1 20 2 = nI n ∧ w 605 = nI n ∧ ∀ i, i < n → h.1 21 i = w (606 + 2 * i) ∧ h.1 22 i = w (606 + 2 * i + 1)
set_option maxHeartbeats 400000 in
theorem TVn.tv {n : Nat} {h : HP} {w : Nat → Int32} (V : TVn n h w) : TV h 1 w := ⟨n, V⟩
set_option maxHeartbeats 400000 in
theorem upI_at (h : HP) (c j : Nat) (v : Int32) {a : Nat} (ha : a ≠ c) : (upI h c j v).1 a = h.1 a := by funext k; simp [upI, ha]
set_option maxHeartbeats 400000 in
theorem forget_both (h m : HP) : f_Tr_forget 20 h = some (upI h 20 2 0) ∧ TVn 0 (upI h 20 2 0) ((upI m 1 605 0).1 1) ∧ trX h (upI h 20 2 0) ∧ trM m (upI m 1 605 0) :=
  ⟨rfl, ⟨by omega, by rw [upI_s, if_pos rfl]; rfl, by rw [upI_s, if_pos rfl]; rfl, fun i hi => by omega⟩, fun a h1 _ _ => upI_at h 20 2 0 h1, ⟨fun a ha => upI_at m 1 605 0 ha, fun j hj => by rw [upI_s, if_neg (by omega)]⟩⟩
set_option maxHeartbeats 400000 in
theorem because_both {n : Nat} {h m : HP} (V : TVn n h (m.1 1)) (hn : n < 3) (v1 v2 : Int32) : ∃ h' m', f_Tr_because 20 h v1 v2 = some h' ∧ f_Mo_causes 0 m v1 v2 = some m' ∧ TVn (n + 1) h' (m'.1 1) ∧ trX h h' ∧ trM m m' := by
  obtain ⟨-, e1, e2, e3⟩ := V
  unfold f_Tr_because f_Mo_causes
  have l1 : (606 : Int32) + 2 * nI n = nI (606 + 2 * n) := lin1 606 2 n
  have u1 : (upI m 1 (606 + 2 * n) v1).1 1 605 = nI n := by rw [upI_s, if_neg (by omega)]; exact e2
  have u2 : (upI (upI m 1 (606 + 2 * n) v1) 1 (606 + 2 * n + 1) v2).1 1 605 = nI n := by rw [upI_s, if_neg (by omega)]; exact u1
  have t1 : (upI h 21 n v1).1 20 2 = nI n := by rw [upI_ne _ _ _ _ (by decide)]; exact e1
  have t2 : (upI (upI h 21 n v1) 22 n v2).1 20 2 = nI n := by rw [upI_ne _ _ _ _ (by decide)]; exact t1
  have b3 : inb (nI n) 3 := inb_nI hn (by decide)
  have b4 : inb (nI (606 + 2 * n)) 4100 := inb_nI (by omega) (by decide)
  have b5 : inb (nI (606 + 2 * n + 1)) 4100 := inb_nI (by omega) (by decide)
  simp only [Nat.zero_add, Nat.reduceAdd, ix605, e1, e2, l1, ix_nI (show n < 2 ^ 31 by omega), ix_nI (show 606 + 2 * n < 2 ^ 31 by omega), u1, t1, nI_1, if_pos b3, if_pos b4, if_pos b5, ix_nI (show 606 + 2 * n + 1 < 2 ^ 31 by omega), u2, t2, if_neg (show ¬ (3 : Int32) ≤ nI n from nI_ge (b := 3) hn (by decide))]
  refine ⟨_, _, rfl, rfl, ⟨by omega, by rw [upI_s, if_pos rfl], by rw [upI_s, if_pos rfl], fun i hi => ?_⟩, fun a h1 h2 h3 => by rw [upI_at _ _ _ _ h1, upI_at _ _ _ _ h3, upI_at _ _ _ _ h2], ⟨fun a ha => by rw [upI_at _ _ _ _ ha, upI_at _ _ _ _ ha, upI_at _ _ _ _ ha], fun j hj => by rw [upI_s, if_neg (by omega), upI_s, if_neg (by omega), upI_s, if_neg (by omega)]⟩⟩
  rw [upI_ne _ _ _ _ (show 21 ≠ 20 by decide), upI_ne _ _ _ _ (show 21 ≠ 22 by decide), upI_ne _ _ _ _ (show 22 ≠ 20 by decide), upI_s, upI_s, upI_s, upI_s, upI_s, upI_s, upI_s, upI_s, upI_ne _ _ _ _ (show 22 ≠ 21 by decide)]
  rw [if_neg (show ¬ 606 + 2 * i = 605 by omega), if_neg (show ¬ 606 + 2 * i + 1 = 605 by omega), if_neg (show ¬ 606 + 2 * i = 606 + 2 * n + 1 by omega), if_neg (show ¬ 606 + 2 * i + 1 = 606 + 2 * n by omega)]
  by_cases z : i = n
  · rw [if_pos z, if_pos z, if_pos (by omega), if_pos (by omega)]; exact ⟨rfl, rfl⟩
  · rw [if_neg z, if_neg z, if_neg (by omega), if_neg (by omega)]; exact e3 i (by omega)
