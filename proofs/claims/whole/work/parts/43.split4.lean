/-! split: both -/
set_option maxHeartbeats 400000 in
theorem spA_cel {a b c : Int32} {j : Nat} (hj : j < 3) : spA a b c (nI j) = cel a b c 0 0 j := by
  rcases (show j = 0 ∨ j = 1 ∨ j = 2 by omega) with rfl | rfl | rfl <;> rfl
set_option maxHeartbeats 400000 in
theorem spA_out {a b c v : Int32} (h : ¬ (0 ≤ v ∧ v < 3)) : spA a b c v = -10000000 := by
  unfold spA
  rw [if_neg (fun e => h (by rw [e]; decide)), if_neg (fun e => h (by rw [e]; decide)), if_neg (fun e => h (by rw [e]; decide))]
set_option maxHeartbeats 400000 in
theorem M_split {m : HP} {w : Nat → Int32} (hw : m.1 1 = w) (R : RowsOk w) {s r : Nat} (hs : s < 2) (hr : r < nS w s) (v3 v4 : Int32) : ∃ m1 m2 m' k z, f_Mo_cuts 0 (upI m 0 9 0) (sp w s r) = some m1 ∧ f_Mo_cuts 0 m1 (ep w s r) = some m2 ∧ f_Mo_split_l53 0 m2 (nI s) (nI r) v3 v4 (nI (1 - s)) (sp w s r) (ep w s r) (m2, 0) = some (m', z) ∧ CT m' k (IP w s r (nS w (1 - s))) ∧ k ≤ 82 ∧ frM [7] [9] m m' ∧ (∀ j, j < k - 1 → v3 = nI j → z = spA (tmO (m'.1 7 j)) (tmO (m'.1 7 (j + 1))) (nI (thC w s r (m'.1 7 j))) v4) ∧ ((∀ j, j < k - 1 → ¬ v3 = nI j) → z = if v3 = -1 then nI (k - 1) else -10000000) := by
  have hs1 : 1 - s < 2 := by omega
  have n1 := (R (1 - s) hs1).2.1
  have n2 := (R s hs).2.1
  have sl := sp_lt_ep R hs hr
  have F0 : frM [7] [9] m (upI m 0 9 0) := frM.up0 _ (by decide)
  have C0 : CT (upI m 0 9 0) 0 (fun _ => False) := ⟨by rw [upI_s, if_pos rfl]; rfl, by omega, fun i j _ h => by omega, fun j h => by omega, fun x h => h.elim⟩
  obtain ⟨m1, k1, e1, C1, l1, F1⟩ := M_cuts C0 (by omega) (sp w s r)
  obtain ⟨m2, k2, e2, C2, l2, F2⟩ := M_cuts C1 (by omega) (ep w s r)
  have F02 := (F0.tr F1).tr F2
  have C2' : CT m2 k2 (IP w s r 0) := ⟨C2.1, C2.2.1, C2.2.2.cg (fun x => by
    unfold IP
    constructor
    · rintro ((z | z) | z)
      · exact z.elim
      · exact Or.inl (Or.inl z)
      · exact Or.inl (Or.inr z)
    · rintro ((z | z) | ⟨o, z, _⟩)
      · exact Or.inl (Or.inr z)
      · exact Or.inr z
      · omega)⟩
  have key1 := loop_inv (body := fun x : HP × Int32 => f_Mo_split_b53 0 x.1 (nI s) (nI r) v3 v4 (nI (1 - s)) (sp w s r) (ep w s r) x.2) (fun i (x : HP × Int32) => x.2 = nI i ∧ ∃ k, CT x.1 k (IP w s r i) ∧ k ≤ 2 + 2 * i ∧ frM [7] [9] m x.1) (nS w (1 - s)) (fun t : HP × Int32 => ∃ k, CT t.1 k (IP w s r (nS w (1 - s))) ∧ k ≤ 82 ∧ frM [7] [9] m t.1 ∧ (∀ j, j < k - 1 → v3 = nI j → t.2 = spA (tmO (t.1.1 7 j)) (tmO (t.1.1 7 (j + 1))) (nI (thC w s r (t.1.1 7 j))) v4) ∧ ((∀ j, j < k - 1 → ¬ v3 = nI j) → t.2 = if v3 = -1 then nI (k - 1) else -10000000)) (fun i x hi hI => ?_) (fun x hI => ?_) (m2, 0) ⟨rfl, k2, C2', by omega, F02⟩
  · obtain ⟨⟨m', z⟩, e, k, a, b, c, d, f⟩ := key1
    exact ⟨m1, m2, m', k, z, e1, e2, e, a, b, c, d, f⟩
  · obtain ⟨hx, v5⟩ := x
    obtain ⟨e5, k, C, hk, F⟩ := hI
    replace e5 : v5 = nI i := e5
    replace C : CT hx k (IP w s r i) := C
    replace F : frM [7] [9] m hx := F
    subst e5
    have hwx : hx.1 1 = w := by rw [F.1 1 (by decide) (by decide)]; exact hw
    obtain ⟨m3, k3, e3, C3, l3, F3⟩ := M_split1 hwx R hs hr hi C (by omega) v3 v4
    exact ⟨(m3, nI (i + 1)), e3, rfl, k3, ⟨C3.1, C3.2.1, C3.2.2.cg (fun x => (IP_succ x).symm)⟩, by omega, F.tr F3⟩
  · obtain ⟨hx, v5⟩ := x
    obtain ⟨e5, k, C, hk, F⟩ := hI
    replace e5 : v5 = nI (nS w (1 - s)) := e5
    replace C : CT hx k (IP w s r (nS w (1 - s))) := C
    replace F : frM [7] [9] m hx := F
    subst e5
    have hwx : hx.1 1 = w := by rw [F.1 1 (by decide) (by decide)]; exact hw
    have k2 : 2 ≤ k := by
      obtain ⟨a, ha, ea⟩ := C.2.2.2.2 (sp w s r).toInt (Or.inl (Or.inl rfl))
      obtain ⟨b, hb, eb⟩ := C.2.2.2.2 (ep w s r).toInt (Or.inl (Or.inr rfl))
      have h1 := Int32.lt_iff_toInt_lt.mp sl
      rcases Nat.eq_or_lt_of_le (Nat.zero_le a) with z | z
      · rcases Nat.eq_or_lt_of_le (Nat.zero_le b) with y | y
        · rw [← z] at ea; rw [← y] at eb; omega
        · omega
      · omega
    have ent : f_Mo_split_b53 0 hx (nI s) (nI r) v3 v4 (nI (1 - s)) (sp w s r) (ep w s r) (nI (nS w (1 - s))) = Option.map Sum.inr (if v3 = -1 then some (hx, nI (k - 1)) else if (if 0 ≤ v3 ∧ v3 ≤ nI (k - 2) then (1 : Int32) else 0) = 0 then some (hx, -10000000) else if v4 = 0 then (if inb v3 200 then some (hx, tmO (hx.1 7 (ix v3))) else none) else if v4 = 1 then (if inb (v3 + 1) 200 then some (hx, tmO (hx.1 7 (ix (v3 + 1)))) else none) else if v4 = 2 then (if inb v3 200 then some (hx, nI (thC w s r (hx.1 7 (ix v3)))) else none) else some (hx, -10000000)) := by
      unfold f_Mo_split_b53
      simp only [if_pos (many_ix hs1 rfl).1, (many_ix hs1 rfl).2, Nat.zero_add, hwx, (R (1 - s) hs1).1, if_pos (nle _), C.1, show nI k - 1 = nI (k - 1) from pk_sub (b := 1) (by omega), show nI k - 2 = nI (k - 2) from pk_sub (b := 2) (by omega), M_isIn, Option.bind_some, M_time, M_partnersAt hwx R hs hr]
      rfl
    by_cases hx3 : ∃ j, j < k - 1 ∧ v3 = nI j
    · obtain ⟨j, hj, ej⟩ := hx3
      refine ⟨(hx, spA (tmO (hx.1 7 j)) (tmO (hx.1 7 (j + 1))) (nI (thC w s r (hx.1 7 j))) v4), ?_, k, C, by omega, F, fun j' hj' ej' => ?_, fun no => absurd ej (no j hj)⟩
      · refine Eq.trans ent ?_
        rw [ej]
        simp only [if_neg (show ¬ nI j = -1 from nI_m1 (by omega)), if_pos (show 0 ≤ nI j ∧ nI j ≤ nI (k - 2) from ⟨nI_pos' (by omega), nI_le (by omega) (by omega)⟩), if_neg one0, nI_1, if_pos (inb_nI (show j < 200 by omega) (show 200 < 2 ^ 31 by decide)), if_pos (inb_nI (show j + 1 < 200 by omega) (show 200 < 2 ^ 31 by decide)), ix_nI (show j < 2 ^ 31 by omega), ix_nI (show j + 1 < 2 ^ 31 by omega)]
        unfold spA
        by_cases a0 : v4 = 0
        · simp only [if_pos a0]; rfl
        · by_cases a1 : v4 = 1
          · simp only [if_neg a0, if_pos a1]; rfl
          · by_cases a2 : v4 = 2
            · simp only [if_neg a0, if_neg a1, if_pos a2]; rfl
            · simp only [if_neg a0, if_neg a1, if_neg a2]; rfl
      · have : j' = j := (nI_eq (by omega) (by omega)).mp (ej'.symm.trans ej)
        rw [this]
    · refine ⟨(hx, if v3 = -1 then nI (k - 1) else -10000000), ?_, k, C, by omega, F, fun j' hj' ej' => absurd ⟨j', hj', ej'⟩ hx3, fun _ => rfl⟩
      refine Eq.trans ent ?_
      by_cases z : v3 = -1
      · simp only [if_pos z]; rfl
      · have no : ¬ (0 ≤ v3 ∧ v3 ≤ nI (k - 2)) := by
          rintro ⟨y1, y2⟩
          refine hx3 ⟨ix v3, ?_, ?_⟩
          · have := Int32.le_iff_toInt_le.mp y2
            rw [nI_toInt (by omega)] at this
            have h0 := Int32.le_iff_toInt_le.mp y1
            have e0 : (0 : Int32).toInt = 0 := rfl
            have : ix v3 = v3.toInt.toNat := rfl
            omega
          · have h0 := Int32.le_iff_toInt_le.mp y1
            have e0 : (0 : Int32).toInt = 0 := rfl
            have e1 : ix v3 = v3.toInt.toNat := rfl
            have b1 := Int32.toInt_lt v3
            refine Int32.toInt_inj.mp ?_
            rw [nI_toInt (by omega)]; omega
        simp only [if_neg z, if_neg no, if_true]; rfl
set_option maxHeartbeats 400000 in
theorem q_split {h m : HP} {w : Nat → Int32} (Q : RQ h m w) (v1 v2 v3 v4 : Int32) : Alike2 h m (f_TJ_split 0 h v1 v2 v3 v4) (f_Mo_split 0 m v1 v2 v3 v4) := by
  obtain ⟨hw, V, R, -, hW⟩ := Q
  unfold f_TJ_split f_Mo_split
  rcases isRow_both hw V R v1 v2 with ⟨a, b⟩ | ⟨a, b, s, r, hs, hr, rfl, rfl⟩
  · rw [a, b]; exact ⟨h, m, _, rfl, rfl, keepX.rf, keepM.rf⟩
  · rw [a, b]
    have n1 := (R (1 - s) (by omega)).2.1
    have n2 := (R s hs).2.1
    obtain ⟨m1, m2, m', k, z, e1, e2, e3, C, lk, F, z1, z2⟩ := M_split hw R hs hr v3 v4
    have kM := F.kM (by decide) (by decide) (by decide) (by decide) (by decide)
    obtain ⟨h1, x1, M1, G1⟩ := X_gather V hs hr
    obtain ⟨h2, x2, P2, G2⟩ := X_layParts M1 n1 (d := m'.1 7) C.2.2
    have kX : keepX h h2 := fun a ha => by rw [G2 a ha, G1 a (by simp; omega)]
    simp only [Option.bind_some, if_neg one0, Nat.zero_add, M_start (h := m) hs (show r < 40 by omega) rfl rfl, M_end (h := m) hs (show r < 40 by omega) rfl rfl, hw, e1, e2, oth hs, e3, x1, x2, P2.2.1]
    by_cases hx : ∃ j, j < k - 1 ∧ v3 = nI j
    · obtain ⟨j, hj, ej⟩ := hx
      have ne : ¬ v3 = -1 := by rw [ej]; exact nI_m1 (by omega)
      rw [z1 j hj ej, if_neg ne]
      rcases X_pans P2 v3 v4 (c := 3) (by omega) (vc := 3) rfl with ⟨c', j', hc', hj', ec', ej', e⟩ | ⟨no, e⟩
      · have ecc : c' = j := (nI_eq (by omega) (by omega)).mp (ec'.symm.trans ej)
        refine ⟨h2, m', _, by rw [e]; rfl, ?_, kX, kM⟩
        rw [ej', spA_cel hj', ecc]
        rfl
      · refine ⟨h2, m', _, by rw [e]; rfl, ?_, kX, kM⟩
        rw [spA_out (fun y => no ⟨?_, ?_, y.1, y.2⟩)]
        · rw [ej]; exact nI_pos' (by omega)
        · rw [ej]; exact nI_lt hj (by omega)
    · have hno : ∀ j, j < k - 1 → ¬ v3 = nI j := fun j h1 h2 => hx ⟨j, h1, h2⟩
      rw [z2 hno]
      by_cases y : v3 = -1
      · rw [if_pos y, if_pos y]
        exact ⟨h2, m', _, rfl, rfl, kX, kM⟩
      · rw [if_neg y, if_neg y]
        rcases X_pans P2 v3 v4 (c := 3) (by omega) (vc := 3) rfl with ⟨c', j', hc', hj', ec', ej', e⟩ | ⟨no, e⟩
        · exact absurd ec' (hno c' hc')
        · exact ⟨h2, m', _, by rw [e]; rfl, rfl, kX, kM⟩
