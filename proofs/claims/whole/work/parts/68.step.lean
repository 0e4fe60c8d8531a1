/-! step: event by event -/
set_option maxHeartbeats 400000 in
theorem M_place {m : HP} {e : Nat} (he : e < 160) : f_Mo_placeOf 0 m (nI e) = some (plE (m.1 1) e) := by
  have hs := sE_lt he
  have hr := rE_lt e
  unfold f_Mo_placeOf plE
  rw [ev_st he, ev_sd he, ev_rw he]
  simp only [Option.bind_some]
  rw [M_end (h := m) hs hr rfl rfl, M_start (h := m) hs hr rfl rfl]
  simp only [Option.bind_some]
  by_cases z : e % 2 = 1
  · rw [if_pos z, if_neg one0, if_pos z]
  · rw [if_neg z, if_pos rfl, if_neg z]
set_option maxHeartbeats 400000 in
theorem plE_rng {w : Nat → Int32} (R : RowsOk w) {e : Nat} (he : e < 160) (hr : rE e < nS w (sE e)) : -2000000 ≤ (plE w e).toInt ∧ (plE w e).toInt ≤ 2000001 := by
  have := sp_rng R (sE_lt he) hr
  unfold plE
  split <;> omega
set_option maxHeartbeats 400000 in
theorem AC_row {w : Nat → Int32} {T G : Nat} {E AC : Nat → Nat} {A : Nat → Nat → Nat} (EV : EVs w T E) (hG : G ≤ T) (H : ACs G E AC A) {s i : Nat} (hs : s < 2) (hi : i < AC s) : A s i < nS w s := by
  obtain ⟨a, b, c⟩ := H s hs
  have a4 := a i hi
  obtain ⟨⟨k, hk, e⟩, -⟩ := (c (A s i) a4).mp ⟨i, hi, rfl⟩
  have ev := (EV.1 k (by omega)).2
  rw [e] at ev
  have h1 : sE (2 * (40 * s + A s i) + 1) = s := by unfold sE; omega
  have h2 : rE (2 * (40 * s + A s i) + 1) = A s i := by unfold rE; omega
  rwa [h1, h2] at ev
set_option maxHeartbeats 400000 in
theorem evt_sE {s r d : Nat} (hr : r < 40) (hd : d < 2) : sE (2 * (40 * s + r) + d) = s ∧ rE (2 * (40 * s + r) + d) = r := by
  unfold sE rE; omega
set_option maxHeartbeats 4000000 in
theorem event_both {h m : HP} (S : RT h 1 (m.1 1)) (run : m.1 1 614 = 1) : ∃ h' m', f_Cu_takeEvent 23 h 1 = some h' ∧ f_Mo_goes 0 m = some m' ∧ RT h' 1 (m'.1 1) ∧ keepNet h h' ∧ keepMN m m' := by
  obtain ⟨V, R, se, bv, tv, T, G, np, E, AC, A, c1, EV, H, hnp, ⟨w1, w2, w3, w4, w5⟩, ⟨x1, x2, x3, x4, x5, x6, x7, x8⟩, y1, y2, y3, pp⟩ := S
  have hG : G < T := by
    rcases c1.2.2 with z | z
    · rw [run] at z; exact absurd z (by decide)
    · exact z.2
  have hT := c1.1
  obtain ⟨he, hr⟩ := EV.1 G hG
  have hs := sE_lt he
  have r40 := rE_lt (E G)
  have pr := plE_rng R he hr
  obtain ⟨bt1, bt2, bt3, bt4⟩ := evC_bits (w := m.1 1) he pr.1 pr.2
  have n0 := (R 0 (by omega)).2.1
  have n1 := (R 1 (by omega)).2.1
  -- pairs as codes
  have PP : ∀ i, i < np → ix (h.1 28 i) / 40 < nS (m.1 1) 0 ∧ ix (h.1 28 i) % 40 < nS (m.1 1) 1 ∧ h.1 28 i = nI (ix (h.1 28 i)) ∧ m.1 1 (864 + 2 * i) = nI (ix (h.1 28 i) / 40) ∧ m.1 1 (864 + 2 * i + 1) = nI (ix (h.1 28 i) % 40) := by
    intro i hi
    obtain ⟨l, q, hl, hq, p1, p2, p3⟩ := pp i hi
    replace p3 : h.1 28 i = nI (40 * l + q) := p3
    rw [p3, ix_nI (by omega), show (40 * l + q) / 40 = l by omega, show (40 * l + q) % 40 = q by omega]
    exact ⟨hl, hq, rfl, p1, p2⟩
  generalize hP : (fun i => ix (h.1 28 i)) = P
  have Pe : ∀ i, ix (h.1 28 i) = P i := fun i => by rw [← hP]
  simp only [Pe] at PP
  have code := ev_code he
  generalize hes : sE (E G) = s at *
  generalize her : rE (E G) = r at *
  -- the class's head
  have Xh : f_Cu_takeEvent 23 h 1 = (if (nI (E G % 2) : Int32) = 1 then ((f_Cu_takeStart 23 h 1 (nI s) (nI r)).bind fun h11 => f_Cu_takeEvent_j68 23 h11 (nI (evC (m.1 1) (E G)))) else ((f_Cu_takeEnd 23 h (nI s) (nI r)).bind fun h5 => f_Cu_takeEvent_j68 23 h5 (nI (evC (m.1 1) (E G))))) := by
    have yG : h.1 24 G = nI (evC (m.1 1) (E G)) := y1 G hG
    unfold f_Cu_takeEvent
    rw [show h.1 23 2 = nI G from x2, show h.1 23 1 = nI T from x1, if_pos (nI_lt hG (by omega)), if_pos (inb_nI (show G < 160 by omega) (by decide)), ix_nI (by omega), show h.1 (23 + 1) G = nI (evC (m.1 1) (E G)) from yG, bt1, bt2, bt3]
  -- the reference's head
  generalize hm1 : upI (upI m 1 615 (nI (G + 1))) 1 620 (plE (m.1 1) (E G)) = m1
  have mo : ∀ c, c ≠ 1 → m1.1 c = m.1 c := fun c hc => by rw [← hm1, upI_at _ _ _ _ hc, upI_at _ _ _ _ hc]
  have wo : ∀ j, j ≠ 615 → j ≠ 620 → m1.1 1 j = m.1 1 j := fun j a b => by rw [← hm1, upI_s, if_neg b, upI_s, if_neg a]
  have w615 : m1.1 1 615 = nI (G + 1) := by rw [← hm1, upI_s, if_neg (by decide), upI_s, if_pos rfl]
  have w620 : m1.1 1 620 = plE (m.1 1) (E G) := by rw [← hm1, upI_s, if_pos rfl]
  have Mh : f_Mo_goes 0 m = (if (if E G % 2 = 1 then (1 : Int32) else 0) = 0 then ((f_Mo_ends 0 m1 (nI s) (nI r)).bind fun h8 => f_Mo_goes_j77 0 h8) else ((f_Mo_starts 0 m1 (nI s) (nI r)).bind fun h15 => f_Mo_goes_j77 0 h15)) := by
    have l : (621 : Int32) + nI G = nI (621 + G) := nI_add 621 G
    have pl : f_Mo_placeOf 0 (upI m 1 615 (nI (G + 1))) (nI (E G)) = some (plE (m.1 1) (E G)) := by
      rw [M_place he]
      have e2 : ∀ j, 2 ≤ j → j < 404 → (upI m 1 615 (nI (G + 1))).1 1 j = m.1 1 j := fun j a b => by rw [upI_s, if_neg (by omega)]
      unfold plE sp ep
      rw [hes, her, fld_cg e2 hs r40 (show 2 < 5 by omega), fld_cg e2 hs r40 (show 3 < 5 by omega)]
    unfold f_Mo_goes
    simp only [Nat.zero_add, ix615, ix620]
    rw [w1, l, if_pos (inb_nI (show 621 + G < 4100 by omega) (by decide)), ix_nI (show 621 + G < 2 ^ 31 by omega), w3 G hG, nI_1, pl, ev_st he, ev_sd he, ev_rw he, hes, her]
    simp only [Option.bind_some]
    rw [hm1]
  rw [Xh, Mh]
  have gm : grow (m.1 1) (m1.1 1) := grow.of R (fun j _ hj => wo j (by omega) (by omega))
  by_cases st : E G % 2 = 1
  · -- a row starts
    have eG : E G = 2 * (40 * s + r) + 1 := by omega
    have HA := AC_start EV H hG hs r40 eG
    have hb : AC s < 40 := by
      have := AC_40 HA hs
      simp only [if_true] at this
      omega
    have ha := AC_40 H (show 1 - s < 2 by omega)
    have sN := stN_start EV hG hs r40 eG
    have s40 := stN_le E (G + 1) s
    have o40 := stN_le E G (1 - s)
    have aL := AC_le H (show 1 - s < 2 by omega)
    have room : np + AC (1 - s) ≤ stN E (G + 1) 0 * stN E (G + 1) 1 := by
      rcases (show s = 0 ∨ s = 1 by omega) with z | z
      · subst z
        rw [sN.1, sN.2 1 (by omega) (by omega), Nat.succ_mul]
        exact Nat.add_le_add hnp aL
      · subst z
        rw [sN.1, sN.2 0 (by omega) (by omega), Nat.mul_succ]
        exact Nat.add_le_add hnp aL
    have room2 := np_le room
    generalize hAq : (fun i => if i < AC (1 - s) then A (1 - s) i else 0) = Aq
    have qe : ∀ i, i < AC (1 - s) → Aq i = A (1 - s) i := fun i hi => by rw [← hAq]; exact if_pos hi
    have q40 : ∀ i, Aq i < 40 := fun i => by
      rw [← hAq]
      show (if i < AC (1 - s) then A (1 - s) i else 0) < 40
      by_cases z : i < AC (1 - s)
      · rw [if_pos z]; exact ((H (1 - s) (by omega)).1 i z)
      · rw [if_neg z]; omega
    have qr : ∀ i, i < AC (1 - s) → Aq i < nS (m.1 1) (1 - s) := fun i hi => by rw [qe i hi]; exact AC_row EV (by omega) H (by omega) hi
    have pq : (fun i => prt (m1.1 1) s r (Aq i)) = fun i => prt (m.1 1) s r (Aq i) := by
      funext i
      exact prt_cg (fun j hj => wo j (by omega) (by omega)) hs r40 (q40 i)
    obtain ⟨h1, g1, g2, g3, g4, g5, g6, g7, g8⟩ := X_takeStart (Aq := Aq) (P := P) (np := np) V R hs hr ha hb (y2 (1 - s) (by omega)).1 (fun i hi => ⟨by rw [Nat.mul_comm, qe i hi]; exact (y2 (1 - s) (by omega)).2 i hi, qr i hi⟩) x4 (fun i hi => (PP i hi).2.2.1) (y2 s hs).1 (by omega)
    obtain ⟨m2, k1, k2, k3, k4, k5, k6⟩ := M_starts (m := m1) (Aq := Aq) (P := P) (np := np) (a := AC (1 - s)) (b := AC s) hs r40 ha hb (by rw [wo _ (by omega) (by omega)]; exact (w4 (1 - s) (by omega)).1) (fun i hi => ⟨by rw [wo _ (by omega) (by omega), qe i hi]; exact (w4 (1 - s) (by omega)).2 i hi, q40 i⟩) (by rw [wo _ (by omega) (by omega)]; exact (w4 s hs).1) ⟨by rw [wo 863 (by omega) (by omega)]; exact w5, fun i hi => by rw [wo _ (by omega) (by omega), wo _ (by omega) (by omega)]; exact ⟨(PP i hi).2.2.2.1, (PP i hi).2.2.2.2⟩⟩ (by omega)
    rw [pq] at k6
    rw [st, if_pos (show nI 1 = 1 from rfl), g1, if_pos rfl, if_neg one0, k1]
    simp only [Option.bind_some]
    have wr : ∀ j, j < 615 → m2.1 1 j = m.1 1 j := fun j hj => by rw [k3 j (by omega), wo j (by omega) (by omega)]
    have wr2 : ∀ j, 621 ≤ j → j < 781 → m2.1 1 j = m.1 1 j := fun j a b => by rw [k3 j (by omega), wo j (by omega) (by omega)]
    have g : grow (m.1 1) (m2.1 1) := grow.of R (fun j _ hj => wr j (by omega))
    have cle := cN_le (fun i => prt (m.1 1) s r (Aq i)) (AC (1 - s))
    have pe : ∀ k, k < T → evC (m2.1 1) (E k) = evC (m.1 1) (E k) ∧ ruE (m2.1 1) (E k) = ruE (m.1 1) (E k) := fun k hk => by
      obtain ⟨a1, a2⟩ := EV.1 k hk
      have f := (g _ (sE_lt a1)).2
      unfold evC ruE plE sp ep
      rw [f _ 0 a2 (by omega), f _ 2 a2 (by omega), f _ 3 a2 (by omega)]
      exact ⟨rfl, rfl⟩
    have sc : ∀ u, scN (m2.1 1) T E (G + 1) u = scN (m.1 1) T E (G + 1) u := fun u => cN_congr T (fun k hk => by rw [(pe k hk).2])
    have rue : 4 * s + ix (fld (m.1 1) s r 0) = ruE (m.1 1) (E G) := by unfold ruE; rw [hes, her]
    have key := event_tail (h1 := h1) (m2 := m2) (T := T) (G := G) (np := np + cN (fun i => prt (m.1 1) s r (Aq i)) (AC (1 - s))) (E := E) (code := nI (evC (m.1 1) (E G))) (P := pfP (fun i => prt (m.1 1) s r (Aq i)) (pcod s r Aq) np P (AC (1 - s))) ((V.cgt (fun c a b => g2 c (by omega))).cgw R (fun j hj => wr j (by omega))) (R.cgw (fun j _ hj => wr j (by omega))) (by rw [wr 0 (by omega), wr 1 (by omega)]; exact se) ((bv.cgt (fun c a b => g2 c (by omega))).cgw (fun j a b => wr j (by omega))) (TV.cgw (w := m.1 1) (by unfold TV; rw [g2 (1 + 19) (by omega), g2 (1 + 20) (by omega), g2 (1 + 21) (by omega)]; exact tv) (fun j a b => wr j (by omega))) hT hG ⟨fun k hk => ⟨(EV.1 k hk).1, Nat.lt_of_lt_of_le (EV.1 k hk).2 (g _ (sE_lt (EV.1 k hk).1)).1⟩, EV.2⟩ HA (by omega) ((wr 614 (by omega)).trans run) (by rw [k3 615 (by omega)]; exact w615) (by rw [k3 616 (by omega), wo 616 (by omega) (by omega)]; exact w2) (fun k hk => by rw [wr2 _ (by omega) (by omega)]; exact w3 k hk) (fun t ht => ?_) k6 ?_ ((g3 1 (by decide)).trans x1) ((g3 2 (by decide)).trans x2) g4 ?_ ?_ ?_ (fun k hk => ?_) (fun t ht => ?_) (fun u hu => ?_) g8 ?_
    · obtain ⟨h', m', d1, d2, d3, d4, d5, d6⟩ := key
      exact ⟨h', m', d1, d2, d3, ⟨(d4 29 (by decide)).trans (g2 29 (by omega)), (d4 30 (by decide)).trans (g2 30 (by omega)), (d4 31 (by decide)).trans (g2 31 (by omega))⟩, ⟨fun k hk => by rw [d6 _ (by omega), k3 _ (by omega), wo _ (by omega) (by omega)], by rw [d5 2 (by decide), k2 2 (by decide), mo 2 (by decide)], by rw [d5 0 (by decide), k2 0 (by decide), mo 0 (by decide)], by rw [d5 9 (by decide), k2 9 (by decide), mo 9 (by decide)], by rw [d5 0 (by decide), k2 0 (by decide), mo 0 (by decide)]⟩⟩
    · show m2.1 1 (781 + t) = nI (if t = s then AC s + 1 else AC t) ∧ ∀ i, i < (if t = s then AC s + 1 else AC t) → m2.1 1 (783 + 40 * t + i) = nI (if t = s ∧ i = AC s then r else A t i)
      have t40 := AC_40 H ht
      rw [k4 (781 + t) (by omega) (by omega)]
      by_cases z : t = s
      · subst z
        rw [if_pos rfl, if_pos rfl]
        refine ⟨rfl, fun i hi => ?_⟩
        rw [k5 (783 + 40 * t + i) (by omega) (by omega)]
        by_cases y : i = AC t
        · rw [if_pos (by omega), if_pos ⟨rfl, y⟩]
        · rw [if_neg (by omega), if_neg (fun u => y u.2), wo _ (by omega) (by omega)]
          exact (w4 t ht).2 i (by omega)
      · rw [if_neg z, if_neg (by omega), wo _ (by omega) (by omega)]
        refine ⟨(w4 t ht).1, fun i hi => ?_⟩
        rw [k5 (783 + 40 * t + i) (by omega) (by omega), if_neg (by omega), if_neg (fun u => z u.1), wo _ (by omega) (by omega)]
        exact (w4 t ht).2 i hi
    · refine pfP_lo (Q := fun x => x / 40 < nS (m2.1 1) 0 ∧ x % 40 < nS (m2.1 1) 1) (fun i hi => ?_) _ (fun i hi _ => ?_)
      · exact ⟨Nat.lt_of_lt_of_le (PP i hi).1 (g 0 (by omega)).1, Nat.lt_of_lt_of_le (PP i hi).2.1 (g 1 (by omega)).1⟩
      · have a1 := qr i hi
        have a2 := q40 i
        have g0 := (g 0 (by omega)).1
        have g1' := (g 1 (by omega)).1
        rcases (show s = 0 ∨ s = 1 by omega) with z | z
        · subst z
          replace a1 : Aq i < nS (m.1 1) 1 := a1
          unfold pcod; rw [if_pos rfl]; omega
        · subst z
          replace a1 : Aq i < nS (m.1 1) 0 := a1
          unfold pcod; rw [if_neg (by decide)]; omega
    · rw [g3 9 (by decide), k3 617 (by omega), wo 617 (by omega) (by omega)]; exact x5
    · rw [g3 10 (by decide), k3 618 (by omega), wo 618 (by omega) (by omega)]; exact x6
    · rw [g3 11 (by decide), k3 619 (by omega), wo 619 (by omega) (by omega)]; exact x7
    · rw [g2 24 (by omega), (pe k hk).1]; exact y1 k hk
    · show h1.1 26 t = nI (if t = s then AC s + 1 else AC t) ∧ ∀ i, i < (if t = s then AC s + 1 else AC t) → h1.1 25 (40 * t + i) = nI (if t = s ∧ i = AC s then r else A t i)
      have t40 := AC_40 H ht
      rw [g6 t]
      by_cases z : t = s
      · subst z
        rw [if_pos rfl, if_pos rfl]
        refine ⟨rfl, fun i hi => ?_⟩
        rw [g5 (40 * t + i)]
        by_cases y : i = AC t
        · rw [if_pos (by omega), if_pos ⟨rfl, y⟩]
        · rw [if_neg (by omega), if_neg (fun u => y u.2)]
          exact (y2 t ht).2 i (by omega)
      · rw [if_neg z, if_neg z]
        refine ⟨(y2 t ht).1, fun i hi => ?_⟩
        rw [g5 (40 * t + i), if_neg (by omega), if_neg (fun u => z u.1)]
        exact (y2 t ht).2 i hi
    · have stp := scN_step (w := m.1 1) (E := E) hG u
      rw [g7 u, sc u, rue]
      have y3u : h.1 27 u = nI (scN (m.1 1) T E G u) := y3 u hu
      have ru8 := (ruE_lt R he (by rw [hes, her]; exact hr)).1
      have y3r : h.1 27 (ruE (m.1 1) (E G)) = nI (scN (m.1 1) T E G (ruE (m.1 1) (E G))) := y3 _ ru8
      by_cases z : u = ruE (m.1 1) (E G)
      · rw [if_pos z, y3r, ← z, stp, if_pos ⟨st, z.symm⟩]; exact nI_pred _
      · rw [if_neg z, y3u, stp, if_neg (fun v => z v.2.symm)]; rfl
    · rw [k3 620 (by omega), w620]; exact bt4
  · -- a row ends
    have eG : E G = 2 * (40 * s + r) := by omega
    obtain ⟨i0, h0, e0⟩ := AC_mem EV H hG hs r40 eG
    have HA := AC_end EV H hG hs r40 eG h0 e0
    have hb := AC_40 H hs
    have inj := (H s hs).2.1
    have a40 := (H s hs).1
    obtain ⟨h1, g1, g2, g3, g4, g5, g6⟩ := X_takeEnd (h := h) (b := AC s) (Aq := A s) hs r40 hb (y2 s hs).1 (fun i hi => ⟨(y2 s hs).2 i hi, a40 i hi⟩) inj h0 e0
    obtain ⟨m2, k1, k2, k3, k4, k5, k6⟩ := M_ends (m := m1) (b := AC s) (Aq := A s) hs r40 hb (by rw [wo _ (by omega) (by omega)]; exact (w4 s hs).1) (fun i hi => ⟨by rw [wo _ (by omega) (by omega)]; exact (w4 s hs).2 i hi, a40 i hi⟩) inj h0 e0
    rw [show E G % 2 = 0 by omega, if_neg (show ¬ nI 0 = 1 by decide), g1, if_neg (show ¬ ((0 : Nat) = 1) by decide), if_pos rfl, k1]
    simp only [Option.bind_some]
    have wr : ∀ j, j < 615 → m2.1 1 j = m.1 1 j := fun j hj => by rw [k3 j (by omega) (by omega) (by omega), wo j (by omega) (by omega)]
    have g : grow (m.1 1) (m2.1 1) := grow.of R (fun j _ hj => wr j (by omega))
    have pe : ∀ k, k < T → evC (m2.1 1) (E k) = evC (m.1 1) (E k) ∧ ruE (m2.1 1) (E k) = ruE (m.1 1) (E k) := fun k hk => by
      obtain ⟨a1, a2⟩ := EV.1 k hk
      have f := (g _ (sE_lt a1)).2
      unfold evC ruE plE sp ep
      rw [f _ 0 a2 (by omega), f _ 2 a2 (by omega), f _ 3 a2 (by omega)]
      exact ⟨rfl, rfl⟩
    have sc : ∀ u, scN (m2.1 1) T E (G + 1) u = scN (m.1 1) T E (G + 1) u := fun u => cN_congr T (fun k hk => by rw [(pe k hk).2])
    have hnp2 := np_le hnp
    have key := event_tail (h1 := h1) (m2 := m2) (T := T) (G := G) (np := np) (E := E) (code := nI (evC (m.1 1) (E G))) (P := P) ((V.cgt (fun c a b => g2 c (by omega))).cgw R (fun j hj => wr j (by omega))) (R.cgw (fun j _ hj => wr j (by omega))) (by rw [wr 0 (by omega), wr 1 (by omega)]; exact se) ((bv.cgt (fun c a b => g2 c (by omega))).cgw (fun j a b => wr j (by omega))) (TV.cgw (w := m.1 1) (by unfold TV; rw [g2 (1 + 19) (by omega), g2 (1 + 20) (by omega), g2 (1 + 21) (by omega)]; exact tv) (fun j a b => wr j (by omega))) hT hG ⟨fun k hk => ⟨(EV.1 k hk).1, Nat.lt_of_lt_of_le (EV.1 k hk).2 (g _ (sE_lt (EV.1 k hk).1)).1⟩, EV.2⟩ HA (by rw [stN_end r40 eG, stN_end r40 eG]; exact hnp) ((wr 614 (by omega)).trans run) (by rw [k3 615 (by omega) (by omega) (by omega)]; exact w615) (by rw [k3 616 (by omega) (by omega) (by omega), wo 616 (by omega) (by omega)]; exact w2) (fun k hk => by rw [k3 _ (by omega) (by omega) (by omega), wo _ (by omega) (by omega)]; exact w3 k hk) (fun t ht => ?_) ⟨?_, fun i hi => ?_⟩ (fun i hi => ?_) ((g3 1 (by decide)).trans x1) ((g3 2 (by decide)).trans x2) ((g3 8 (by decide)).trans x4) ?_ ?_ ?_ (fun k hk => ?_) (fun t ht => ?_) (fun u hu => ?_) (fun i hi => ?_) ?_
    · obtain ⟨h', m', d1, d2, d3, d4, d5, d6⟩ := key
      exact ⟨h', m', d1, d2, d3, ⟨(d4 29 (by decide)).trans (g2 29 (by omega)), (d4 30 (by decide)).trans (g2 30 (by omega)), (d4 31 (by decide)).trans (g2 31 (by omega))⟩, ⟨fun k hk => by rw [d6 _ (by omega), k3 _ (by omega) (by omega) (by omega), wo _ (by omega) (by omega)], by rw [d5 2 (by decide), k2 2 (by decide), mo 2 (by decide)], by rw [d5 0 (by decide), k2 0 (by decide), mo 0 (by decide)], by rw [d5 9 (by decide), k2 9 (by decide), mo 9 (by decide)], by rw [d5 0 (by decide), k2 0 (by decide), mo 0 (by decide)]⟩⟩
    · show m2.1 1 (781 + t) = nI (if t = s then AC s - 1 else AC t) ∧ ∀ i, i < (if t = s then AC s - 1 else AC t) → m2.1 1 (783 + 40 * t + i) = nI (if t = s ∧ i = i0 then A s (AC s - 1) else A t i)
      have t40 := AC_40 H ht
      by_cases z : t = s
      · subst z
        rw [if_pos rfl]
        refine ⟨k5, fun i hi => ?_⟩
        by_cases y : i = i0
        · rw [if_pos ⟨rfl, y⟩, y]; exact k6
        · rw [if_neg (fun u => y u.2), k3 _ (by omega) (by omega) (by omega), wo _ (by omega) (by omega)]
          exact (w4 t ht).2 i (by omega)
      · rw [if_neg z, k3 _ (by omega) (by omega) (by omega), wo _ (by omega) (by omega)]
        refine ⟨(w4 t ht).1, fun i hi => ?_⟩
        rw [if_neg (fun u => z u.1), k3 _ (by omega) (by omega) (by omega), wo _ (by omega) (by omega)]
        exact (w4 t ht).2 i hi
    · rw [k3 863 (by omega) (by omega) (by omega), wo 863 (by omega) (by omega)]; exact w5
    · rw [k3 _ (by omega) (by omega) (by omega), wo _ (by omega) (by omega), k3 _ (by omega) (by omega) (by omega), wo _ (by omega) (by omega)]
      exact ⟨(PP i hi).2.2.2.1, (PP i hi).2.2.2.2⟩
    · exact ⟨Nat.lt_of_lt_of_le (PP i hi).1 (g 0 (by omega)).1, Nat.lt_of_lt_of_le (PP i hi).2.1 (g 1 (by omega)).1⟩
    · rw [g3 9 (by decide), k3 617 (by omega) (by omega) (by omega), wo 617 (by omega) (by omega)]; exact x5
    · rw [g3 10 (by decide), k3 618 (by omega) (by omega) (by omega), wo 618 (by omega) (by omega)]; exact x6
    · rw [g4, k4, wo 619 (by omega) (by omega), show h.1 23 11 = m.1 1 619 from x7]
    · rw [g2 24 (by omega), (pe k hk).1]; exact y1 k hk
    · show h1.1 26 t = nI (if t = s then AC s - 1 else AC t) ∧ ∀ i, i < (if t = s then AC s - 1 else AC t) → h1.1 25 (40 * t + i) = nI (if t = s ∧ i = i0 then A s (AC s - 1) else A t i)
      have t40 := AC_40 H ht
      rw [g5 t]
      by_cases z : t = s
      · subst z
        rw [if_pos rfl, if_pos rfl]
        refine ⟨rfl, fun i hi => ?_⟩
        rw [g6 (40 * t + i)]
        by_cases y : i = i0
        · rw [if_pos (by omega), if_pos ⟨rfl, y⟩]
        · rw [if_neg (by omega), if_neg (fun u => y u.2)]
          exact (y2 t ht).2 i (by omega)
      · rw [if_neg z, if_neg z]
        refine ⟨(y2 t ht).1, fun i hi => ?_⟩
        rw [g6 (40 * t + i), if_neg (by omega), if_neg (fun u => z u.1)]
        exact (y2 t ht).2 i hi
    · have stp := scN_step (w := m.1 1) (E := E) hG u
      have y3u : h.1 27 u = nI (scN (m.1 1) T E G u) := y3 u hu
      rw [g2 27 (by omega), sc u, y3u, stp, if_neg (fun v => st v.1)]; rfl
    · rw [g2 28 (by omega)]; exact (PP i hi).2.2.1
    · rw [k3 620 (by omega) (by omega) (by omega), w620]; exact bt4
