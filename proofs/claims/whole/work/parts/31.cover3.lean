/-! the cover as the class lays it -/
def lgA (S E : Nat → Int32) (pl : Int32) (j : Nat) (b : Option Nat) : Option Nat := if S j ≤ pl ∧ pl < E j then (match b with | none => some j | some i => if E j ≤ E i then some i else some j) else b
set_option maxHeartbeats 400000 in
theorem lgA_lt (S E : Nat → Int32) (pl : Int32) : ∀ n j, fI (lgA S E pl) n none = some j → j < n
  | 0, j, h => by simp [fI] at h
  | n + 1, j, h => by
    simp only [fI, lgA] at h
    have ih := lgA_lt S E pl n
    split at h
    · cases hb : fI (lgA S E pl) n none with
      | none => rw [hb] at h; simp only [Option.some.injEq] at h; omega
      | some k =>
        rw [hb] at h
        have := ih k hb
        simp only at h
        split at h <;> simp only [Option.some.injEq] at h <;> omega
    · have := ih j h; omega
set_option maxHeartbeats 400000 in
theorem X_longest0 {h : HP} {N : Nat} (hN : N ≤ 40) (hc : h.1 37 3 = nI N) (pl : Int32) : f_Ma_longestAt 37 h pl = some (encO (fI (lgA (h.1 39) (h.1 40) pl) N none)) := by
  unfold f_Ma_longestAt f_Ma_longestAt_l4
  refine loop_up (fun i => (encO (fI (lgA (h.1 39) (h.1 40) pl) i none), nI i)) N (fun i hi => ?_) ?_
  · have hlt := lgA_lt (h.1 39) (h.1 40) pl i
    have hb : inb (nI i) 40 := inb_nI (by omega) (by decide)
    unfold f_Ma_longestAt_b4 f_Ma_longestAt_j37
    simp only [Nat.reduceAdd, hc, if_neg (ngt hi hN), if_pos hb, ix_nI (show i < 2 ^ 31 by omega), nI_1, fI, lgA]
    by_cases a : h.1 39 i ≤ pl
    · by_cases b : pl < h.1 40 i
      · have ab : h.1 39 i ≤ pl ∧ pl < h.1 40 i := ⟨a, b⟩
        have na : ¬ pl < h.1 39 i := Int32.not_lt.mpr a
        have nb : ¬ h.1 40 i ≤ pl := Int32.not_le.mpr b
        cases hb' : fI (lgA (h.1 39) (h.1 40) pl) i none with
        | none => simp only [if_neg na, if_neg nb, if_pos ab, encO, if_neg one0, if_true]
        | some j =>
          have hj := hlt j hb'
          have hne : ¬ nI j = -1 := nI_m1 (by omega)
          simp only [if_neg na, if_neg nb, if_pos ab, encO, if_neg one0, if_neg hne, if_pos (inb_nI (show j < 40 by omega) (show 40 < 2 ^ 31 by decide)), ix_nI (show j < 2 ^ 31 by omega)]
          split <;> rfl
      · have ab : ¬ (h.1 39 i ≤ pl ∧ pl < h.1 40 i) := fun z => b z.2
        have na : ¬ pl < h.1 39 i := Int32.not_lt.mpr a
        have nb : h.1 40 i ≤ pl := Int32.not_lt.mp b
        simp only [if_neg na, if_pos nb, if_neg ab, if_true]
    · have ab : ¬ (h.1 39 i ≤ pl ∧ pl < h.1 40 i) := fun z => a z.1
      have na : pl < h.1 39 i := Int32.not_le.mp a
      simp only [if_pos na, if_neg ab, if_true]
  · unfold f_Ma_longestAt_b4
    simp only [hc, if_pos (nle _)]
    rfl
set_option maxHeartbeats 400000 in
theorem lg_sim {h : HP} {w : Nat → Int32} {s r : Nat} (M : MW h w s r (nS w (1 - s))) (pl : Int32) : fI (lgA (h.1 39) (h.1 40) pl) (cN (prt w s r) (nS w (1 - s))) none = (lgB w s r pl).map (cN (prt w s r)) := by
  have key := fI_sim (fun (x y : Option Nat) => x = y.map (cN (prt w s r)) ∧ ∀ j, y = some j → j < nS w (1 - s) ∧ prt w s r j = true) (prt w s r) (lgA (h.1 39) (h.1 40) pl) (lgS w s pl) (nS w (1 - s)) (fun k hk hp x y ⟨e, hy⟩ => ?_) none none ⟨rfl, fun j hj => by cases hj⟩
  · exact key.1
  · obtain ⟨-, b, c⟩ := M.2.2.2 k hk hp
    subst e
    unfold lgA lgS there
    simp only [b, c, Bool.and_eq_true, decide_eq_true_eq]
    by_cases ht : sp w (1 - s) k ≤ pl ∧ pl < ep w (1 - s) k
    · rw [if_pos ht, if_pos ht]
      cases y with
      | none => exact ⟨rfl, fun j hj => by simp only [Option.some.injEq] at hj; subst hj; exact ⟨hk, hp⟩⟩
      | some i =>
        obtain ⟨hi, hpi⟩ := hy i rfl
        obtain ⟨-, -, ci⟩ := M.2.2.2 i hi hpi
        simp only [Option.map_some, ci]
        split
        · exact ⟨rfl, fun j hj => by simp only [Option.some.injEq] at hj; subst hj; exact ⟨hi, hpi⟩⟩
        · exact ⟨rfl, fun j hj => by simp only [Option.some.injEq] at hj; subst hj; exact ⟨hk, hp⟩⟩
    · rw [if_neg ht, if_neg ht]
      exact ⟨rfl, hy⟩
set_option maxHeartbeats 400000 in
theorem X_longestAt {h : HP} {w : Nat → Int32} {s r : Nat} (M : MW h w s r (nS w (1 - s))) (hn : nS w (1 - s) ≤ 40) (pl : Int32) : f_Ma_longestAt 37 h pl = some (encO ((lgB w s r pl).map (cN (prt w s r)))) := by
  have hc := cN_le (prt w s r) (nS w (1 - s))
  rw [X_longest0 (by omega) M.2.2.1, lg_sim M]
set_option maxHeartbeats 400000 in
theorem X_nextStart {h : HP} {w : Nat → Int32} {s r : Nat} (M : MW h w s r (nS w (1 - s))) (hn : nS w (1 - s) ≤ 40) (pl : Int32) : f_Ma_nextStart 37 h pl = some (nxI w s r pl (nS w (1 - s))) := by
  have hc := cN_le (prt w s r) (nS w (1 - s))
  unfold nxI
  rw [← fI_sim1 (prt w s r) (fun j (x : Int32) => if h.1 39 j ≤ pl then x else if h.1 39 j < x then h.1 39 j else x) (nxT w s pl) (nS w (1 - s)) (fun k hk hp x => by
    obtain ⟨-, b, -⟩ := M.2.2.2 k hk hp
    simp only [b, nxT])]
  unfold f_Ma_nextStart f_Ma_nextStart_l7
  rw [M.2.1]
  refine loop_for (cN (prt w s r) (nS w (1 - s))) (fun j (x : Int32) => if h.1 39 j ≤ pl then x else if h.1 39 j < x then h.1 39 j else x) (ep w s r) _ (fun i x hi => ?_) ?_
  · unfold f_Ma_nextStart_b7
    simp only [Nat.reduceAdd, M.2.2.1, if_neg (ngt hi (show cN (prt w s r) (nS w (1 - s)) ≤ 40 by omega)), if_pos (inb_nI (show i < 40 by omega) (show 40 < 2 ^ 31 by decide)), ix_nI (show i < 2 ^ 31 by omega), nI_1]
    split <;> rfl
  · unfold f_Ma_nextStart_b7
    simp only [M.2.2.1, if_pos (nle _)]
    rfl
/-- a piece, as it is answered -/
def tmO (x : Int32) : Int32 := x >>> (1 &&& 31)
def pcF (w : Nat → Int32) (s r : Nat) (k j : Nat) : Int32 := cel (tmO (plc w s r k)) (tmO (plc w s r (k + 1))) (encO (lgB w s r (plc w s r k))) 0 0 j
set_option maxHeartbeats 400000 in
theorem PW.cg {h : HP} {n : Nat} {F G : Nat → Nat → Int32} (P : PW h n F) (e : ∀ k j, k < n → j < 5 → F k j = G k j) : PW h n G := ⟨P.1, P.2.1, fun k hk j hj => by rw [P.2.2 k hk j hj, e k j hk hj]⟩
set_option maxHeartbeats 400000 in
theorem X_layCover {h : HP} {w : Nat → Int32} (R : RowsOk w) {s r N : Nat} (hs : s < 2) (M : MW h w s r (nS w (1 - s))) (hN : N ≤ 81) (h1 : ∀ k, k < N → plc w s r k < ep w s r) (h2 : ep w s r ≤ plc w s r N) : ∃ h', f_Ma_layCover 37 h 34 = some h' ∧ PW h' N (pcF w s r) ∧ fr [34, 35] h h' := by
  have hn := (R (1 - s) (by omega)).2.1
  obtain ⟨h0, e0, P0, F0⟩ := X_pempty h (pcF w s r)
  have M0 := M.fr F0 (by decide) (by decide) (by decide) (by decide)
  unfold f_Ma_layCover
  rw [e0]
  simp only [Option.bind_some]
  unfold f_Ma_layCover_l11
  refine loop_inv (fun i (x : HP × Int32 × Int32) => x.2.1 = plc w s r i ∧ x.2.2 = nI i ∧ PW x.1 i (pcF w s r) ∧ fr [34, 35] h x.1) N _ ?_ ?_ _ ⟨by rw [M0.1]; rfl, rfl, P0, F0⟩
  · rintro i ⟨hp, v2, v3⟩ hi ⟨e2, e3, P, F⟩
    replace e2 : v2 = plc w s r i := e2
    replace e3 : v3 = nI i := e3
    replace P : PW hp i (pcF w s r) := P
    replace F : fr [34, 35] h hp := F
    subst e2; subst e3
    have Mi := M.fr F (by decide) (by decide) (by decide) (by decide)
    have hlt := h1 i hi
    obtain ⟨h3, e3, P3, F3⟩ := X_pput P (by omega) (tmO (plc w s r i)) (tmO (plc w s r (i + 1))) (encO (lgB w s r (plc w s r i))) 0 0
    refine ⟨(h3, plc w s r (i + 1), nI (i + 1)), ?_, rfl, rfl, P3.cg (fun k j hk hj => ?_), F.tr F3⟩
    · have hlt81 : ¬ (81 : Int32) ≤ nI i := nI_ge (b := 81) (by omega) (by decide)
      have en : plc w s r (i + 1) = nxt w s r (plc w s r i) := rfl
      unfold f_Ma_layCover_b11 f_Ma_layCover_j60 f_Ma_layCover_j89
      simp only [if_neg hlt81, Mi.2.1, if_neg (Int32.not_le.mpr hlt), X_longestAt Mi hn, X_timeOf, Option.bind_some, nI_1]
      cases hb : lgB w s r (plc w s r i) with
      | none =>
        have e4 : nxI w s r (plc w s r i) (nS w (1 - s)) = plc w s r (i + 1) := by rw [en]; unfold nxt; rw [hb]
        rw [hb] at e3
        simp only [Option.map_none, encO, if_true, X_nextStart Mi hn, Option.bind_some, e4]
        simp only [encO, tmO] at e3
        rw [e3]; rfl
      | some j =>
        obtain ⟨hj, hpj, htj⟩ := lgI_some hb
        obtain ⟨na, -, nc⟩ := Mi.2.2.2 j hj hpj
        have hcl := cN_lt (p := prt w s r) hj hpj
        have hcn := cN_le (prt w s r) (nS w (1 - s))
        have hne : ¬ nI (cN (prt w s r) j) = -1 := nI_m1 (by omega)
        have e4 : (if ep w s r < ep w (1 - s) j then ep w s r else ep w (1 - s) j) = plc w s r (i + 1) := by
          rw [en]; unfold nxt; rw [hb]; simp only
          generalize ep w s r = A
          generalize ep w (1 - s) j = B
          clear na nc e3
          grind
        rw [hb] at e3
        simp only [Option.map_some, encO, if_neg hne, if_pos (inb_nI (show cN (prt w s r) j < 40 by omega) (show 40 < 2 ^ 31 by decide)), ix_nI (show cN (prt w s r) j < 2 ^ 31 by omega), Nat.reduceAdd, nc, na, e4]
        simp only [encO, tmO] at e3
        rw [e3]; rfl
    · by_cases hk' : k = i
      · subst hk'; rw [if_pos rfl]; rfl
      · rw [if_neg hk']
  · rintro ⟨hp, v2, v3⟩ ⟨e2, e3, P, F⟩
    replace e2 : v2 = plc w s r N := e2
    replace e3 : v3 = nI N := e3
    replace F : fr [34, 35] h hp := F
    subst e2; subst e3
    have Mi := M.fr F (by decide) (by decide) (by decide) (by decide)
    refine ⟨hp, ?_, P, F⟩
    unfold f_Ma_layCover_b11
    simp only [Mi.2.1, if_pos h2]
    split <;> rfl
set_option maxHeartbeats 400000 in
/-- gathered and laid -/
theorem X_cover {h : HP} {w : Nat → Int32} (V : SV h 1 w) (R : RowsOk w) {s r N : Nat} (hs : s < 2) (hr : r < nS w s) (hN : N ≤ 81) (h1 : ∀ k, k < N → plc w s r k < ep w s r) (h2 : ep w s r ≤ plc w s r N) : ∃ h' h'', f_Ma_gather 37 h 1 (nI s) (nI r) = some h' ∧ f_Ma_layCover 37 h' 34 = some h'' ∧ MW h' w s r (nS w (1 - s)) ∧ PW h'' N (pcF w s r) ∧ fr [34, 35, 37, 38, 39, 40] h h'' ∧ fr [34, 35, 37, 38, 39, 40] h h' := by
  obtain ⟨h', a, b, c⟩ := X_gather V hs hr
  obtain ⟨h'', d, e, f⟩ := X_layCover R hs b hN h1 h2
  have c' : fr [34, 35, 37, 38, 39, 40] h h' := c.mono (by decide)
  exact ⟨h', h'', a, d, b, e, c'.tr (f.mono (by decide)), c'⟩
