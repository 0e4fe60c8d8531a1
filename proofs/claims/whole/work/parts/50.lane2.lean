/-! lane: both walks, both alike -/
set_option maxHeartbeats 400000 in
theorem loop_fin {S T : Type} {body : S → Option (S ⊕ T)} {s : S} {o : Option T} (h : body s = o.map Sum.inr) : loop body s = o := by
  cases o with
  | some t => exact loop_inr h
  | none =>
    have : ∀ k, iterN body k s = none := by
      intro k
      cases k with
      | zero => rfl
      | succ k => rw [iterN, h]; rfl
    cases hl : loop body s with
    | none => rfl
    | some t =>
      obtain ⟨k, hk⟩ := loop_iff.mp hl
      rw [this k] at hk; cases hk
section LB
variable {h m : HP} {w : Nat → Int32} {s n : Nat} {q : Nat → Nat} {p : Nat → Bool}
set_option maxHeartbeats 400000 in
theorem X_lane96 (V : RV h (rc 1 s) w s (nS w s)) (hrc : rc 1 s + 5 < 32) (L : RL h n q p (sp w s) (nS w s)) (hn : n ≤ 40) {T : Nat} (hT : T < n) : ∃ h', f_TJ_lane_l96 0 h (nI (q T)) (rc 1 s) (h, 0) = some (h', nI (la (fun a b => shr w s (q a) (q b)) T)) ∧ fr [41] h h' := by
  have hN := V.1
  have qT := RLlt L hT
  have lb : ∀ t, t < n → la (fun a b => shr w s (q a) (q b)) t < 40 := fun t ht => by
    have := la_ub (fun a b => shr w s (q a) (q b)) t; omega
  unfold f_TJ_lane_l96
  have key := loop_inv (body := fun x : HP × Int32 => f_TJ_lane_b96 0 x.1 (nI (q T)) (rc 1 s) x.2) (fun t x => ∃ h', x = (h', nI t) ∧ fr [41] h h' ∧ h'.2 = h.2 ∧ ∀ u, u < t → h'.1 41 (q u) = nI (la (fun a b => shr w s (q a) (q b)) u)) T (fun x => x.2 = nI (la (fun a b => shr w s (q a) (q b)) T) ∧ fr [41] h x.1) (fun t x ht hI => ?_) (fun x hI => ?_) (h, 0) ⟨h, rfl, fr.rf, rfl, fun u hu => by omega⟩
  · obtain ⟨⟨h', r⟩, e, e2, F⟩ := key
    replace e2 : r = nI (la (fun a b => shr w s (q a) (q b)) T) := e2
    exact ⟨h', by rw [e, e2], F⟩
  · obtain ⟨h', rfl, F, E2, hl⟩ := hI
    have C' : CW h' 32 n (fun i => lN (cdN (sp w s) (q i))) := ⟨L.1.1, by rw [F 32 (by decide)]; exact L.1.2.1, fun i hi => by rw [E2]; exact L.1.2.2 i hi⟩
    have L' : RL h' n q p (sp w s) (nS w s) := ⟨C', L.2⟩
    have V' : RV h' (rc 1 s) w s (nS w s) := by
      refine ⟨V.1, by rw [F _ (by simp; omega)]; exact V.2.1, fun r hr => ?_⟩
      rw [F (rc 1 s + 1) (by simp; omega), F (rc 1 s + 2) (by simp; omega), F (rc 1 s + 3) (by simp; omega), F (rc 1 s + 4) (by simp; omega), F (rc 1 s + 5) (by simp; omega)]
      exact V.2.2 r hr
    have ct := RLcod L' hN (show t < n by omega)
    have qt := RLlt L (show t < n by omega)
    have ne : ¬ nI (q t) = nI (q T) := fun e => by
      have := RLinj L (show t < n by omega) hT ((nI_eq (by omega) (by omega)).mp e)
      omega
    show ∃ s', f_TJ_lane_b96 0 h' (nI (q T)) (rc 1 s) (nI t) = some (Sum.inl s') ∧ _
    unfold f_TJ_lane_b96
    rw [Nat.zero_add, C'.2.1, if_neg (nI_ge (show t < n by omega) (by omega)), ct.1]
    simp only [Option.bind_some]
    rw [ct.2, X_least V' L' (by omega) (by omega) hl]
    simp only [Option.bind_some]
    rw [if_neg ne, if_neg (show ¬ (40 : Int32) ≤ nI (q t) from nI_ge (b := 40) (by omega) (by decide)), if_pos (inb_nI (show q t < 40 by omega) (by decide)), ix_nI (by omega), nI_1]
    refine ⟨_, rfl, _, rfl, F.tr (fr.up _ _ (by decide)), E2, fun u hu => ?_⟩
    rw [upI_s]
    by_cases z : q u = q t
    · rw [if_pos z, RLinj L (show u < n by omega) (show t < n by omega) z]
    · rw [if_neg z]
      refine hl u ?_
      rcases (show u < t ∨ u = t by omega) with y | y
      · exact y
      · rw [y] at z; exact absurd rfl z
  · obtain ⟨h', rfl, F, E2, hl⟩ := hI
    have C' : CW h' 32 n (fun i => lN (cdN (sp w s) (q i))) := ⟨L.1.1, by rw [F 32 (by decide)]; exact L.1.2.1, fun i hi => by rw [E2]; exact L.1.2.2 i hi⟩
    have L' : RL h' n q p (sp w s) (nS w s) := ⟨C', L.2⟩
    have V' : RV h' (rc 1 s) w s (nS w s) := by
      refine ⟨V.1, by rw [F _ (by simp; omega)]; exact V.2.1, fun r hr => ?_⟩
      rw [F (rc 1 s + 1) (by simp; omega), F (rc 1 s + 2) (by simp; omega), F (rc 1 s + 3) (by simp; omega), F (rc 1 s + 4) (by simp; omega), F (rc 1 s + 5) (by simp; omega)]
      exact V.2.2 r hr
    have ct := RLcod L' hN hT
    show ∃ t, f_TJ_lane_b96 0 h' (nI (q T)) (rc 1 s) (nI T) = some (Sum.inr t) ∧ _
    unfold f_TJ_lane_b96
    rw [Nat.zero_add, C'.2.1, if_neg (nI_ge hT (by omega)), ct.1]
    simp only [Option.bind_some]
    rw [ct.2, X_least V' L' hT (by omega) hl]
    simp only [Option.bind_some, if_true]
    exact ⟨_, rfl, rfl, F⟩
/-- the reference's lanes behind t rows -/
def LM (m : HP) (w : Nat → Int32) (s : Nat) (q : Nat → Nat) (t : Nat) : Prop := (∀ u, u < t → m.1 8 (q u) = nI (la (fun a b => shr w s (q a) (q b)) u)) ∧ ∀ o, o < 40 → (∀ u, u < t → q u ≠ o) → m.1 8 o = -1
set_option maxHeartbeats 400000 in
theorem M_next {key : Int32} (hw : m.1 1 = w) (R : RowsOk w) (hs : s < 2) (L : RL h n q (fun o => decide (fld w s o 1 = key)) (sp w s) (nS w s)) (hn : n ≤ 40) {t : Nat} (ht : t < n) (M : LM m w s q t) : f_Mo_nextToLane 0 m (nI s) key = some (nI (q t)) := by
  have hN := (R s hs).2.1
  have lb : ∀ t, t < n → la (fun a b => shr w s (q a) (q b)) t < 40 := fun t ht => by
    have := la_ub (fun a b => shr w s (q a) (q b)) t; omega
  have pick : fI (mnst (fun o => decide (m.1 8 o = -1) && decide (fld w s o 1 = key)) (sp w s)) (nS w s) (-1) = nI (q t) := by
    have okt : (fun o => decide (m.1 8 o = -1) && decide (fld w s o 1 = key)) (q t) = true := by
      have := RLlt L ht
      show (decide (m.1 8 (q t) = -1) && decide (fld w s (q t) 1 = key)) = true
      rw [M.2 (q t) (by omega) (fun u hu e => by have := RLinj L (show u < n by omega) ht e; omega), decide_eq_true rfl, Bool.true_and]
      exact (L.2.1 t ht).2
    rcases mn_spec (fun o => decide (m.1 8 o = -1) && decide (fld w s o 1 = key)) (sp w s) (nS w s) (by omega) with ⟨e, no⟩ | ⟨o, ho, e, ok, le⟩
    · have := no (q t) (RLlt L ht)
      exact absurd (okt.symm.trans this) (by decide)
    · have l1 := le (q t) (RLlt L ht) okt
      simp only [Bool.and_eq_true, decide_eq_true_eq] at ok
      obtain ⟨i, hi, rfl⟩ := L.2.2.2 o ho (decide_eq_true ok.2)
      have ge : t ≤ i := by
        rcases Nat.lt_or_ge i t with y | y
        · have := M.1 i y
          rw [ok.1] at this
          exact absurd this.symm (nI_m1 (by have := lb i hi; omega))
        · exact y
      rw [e]
      rcases Nat.eq_or_lt_of_le ge with y | y
      · rw [y]
      · exfalso
        have c1 := L.2.2.1 _ _ y hi
        have q1 := RLlt L ht
        have q2 := RLlt L hi
        have c2 := cd_le (pl := sp w s) (show q t < 64 by omega) (show q i < 64 by omega) (by have := sp_rng R hs q1; omega) (by have := sp_rng R hs q2; omega) (Nat.le_of_lt c1)
        rcases c2 with c2 | ⟨c2, c3⟩ <;> rcases l1 with l1 | ⟨l1, l2⟩
        · exact Int32.lt_asymm c2 l1
        · rw [l1] at c2; exact Int32.lt_irrefl c2
        · rw [c2] at l1; exact Int32.lt_irrefl l1
        · have : q t = q i := by omega
          rw [this] at c1; omega
  unfold f_Mo_nextToLane f_Mo_nextToLane_l5
  refine loop_up (fun i => (fI (mnst (fun o => decide (m.1 8 o = -1) && decide (fld w s o 1 = key)) (sp w s)) i (-1), nI i)) (nS w s) (fun i hi => ?_) ?_
  · show f_Mo_nextToLane_b5 0 m (nI s) key (fI (mnst (fun o => decide (m.1 8 o = -1) && decide (fld w s o 1 = key)) (sp w s)) i (-1)) (nI i) = some (Sum.inl (mnst (fun o => decide (m.1 8 o = -1) && decide (fld w s o 1 = key)) (sp w s) i (fI (mnst (fun o => decide (m.1 8 o = -1) && decide (fld w s o 1 = key)) (sp w s)) i (-1)), nI (i + 1)))
    have sh := mn_spec (fun o => decide (m.1 8 o = -1) && decide (fld w s o 1 = key)) (sp w s) i (by omega)
    generalize fI (mnst (fun o => decide (m.1 8 o = -1) && decide (fld w s o 1 = key)) (sp w s)) i (-1) = x at *
    unfold f_Mo_nextToLane_b5 mnst
    rw [if_pos (many_ix hs rfl).1, (many_ix hs rfl).2, Nat.zero_add, Nat.zero_add, hw, (R s hs).1, if_neg (ngt hi hN), if_pos (inb_nI (show i < 40 by omega) (by decide)), ix_nI (by omega), M_of (h := m) hs (show i < 40 by omega) (k := 1) (v3 := 1) (by omega) rfl rfl rfl, M_start (h := m) hs (show i < 40 by omega) rfl rfl, hw, nI_1]
    simp only [Option.bind_some, Bool.and_eq_true, decide_eq_true_eq]
    by_cases a : m.1 8 i = -1
    · by_cases b : fld w s i 1 = key
      · rw [if_pos a, if_pos b, if_pos (show m.1 8 i = -1 ∧ fld w s i 1 = key from ⟨a, b⟩)]
        rcases sh with ⟨e, -⟩ | ⟨o, ho, e, -⟩
        · rw [if_pos e, if_pos e]
        · rw [e, if_neg (nI_m1 (by omega)), if_neg (nI_m1 (by omega)), M_start (h := m) hs (show o < 40 by omega) rfl rfl, hw, ix_nI (by omega)]
          simp only [Option.bind_some]
          split <;> rfl
      · rw [if_pos a, if_neg b, if_neg (fun z => b z.2)]
    · rw [if_neg a, if_neg (fun z => a z.1)]
  · show f_Mo_nextToLane_b5 0 m (nI s) key (fI (mnst (fun o => decide (m.1 8 o = -1) && decide (fld w s o 1 = key)) (sp w s)) (nS w s) (-1)) (nI (nS w s)) = _
    rw [pick]
    unfold f_Mo_nextToLane_b5
    rw [if_pos (many_ix hs rfl).1, (many_ix hs rfl).2, Nat.zero_add, hw, (R s hs).1, if_pos (nle _)]
    rfl
set_option maxHeartbeats 400000 in
theorem M_laned {key : Int32} (hw : m.1 1 = w) (R : RowsOk w) (hs : s < 2) (L : RL h n q (fun o => decide (fld w s o 1 = key)) (sp w s) (nS w s)) (hn : n ≤ 40) {t c : Nat} (ht : t < n) (hc : c < 2 ^ 31) (M : LM m w s q t) : f_Mo_isLaned 0 m (nI s) (nI (q t)) (nI c) = some (if anyN (fun v => shr w s (q t) (q v) && decide (la (fun a b => shr w s (q a) (q b)) v = c)) t then 1 else 0) := by
  have hN := (R s hs).2.1
  have qt := RLlt L ht
  have kt := of_decide_eq_true (L.2.1 t ht).2
  have lb : ∀ t, t < n → la (fun a b => shr w s (q a) (q b)) t < 40 := fun t ht => by
    have := la_ub (fun a b => shr w s (q a) (q b)) t; omega
  unfold f_Mo_isLaned f_Mo_isLaned_l3
  rw [loop_find (nS w s) (fun o => decide (m.1 8 o = nI c) && (decide (fld w s o 1 = key) && shr w s (q t) o)) 0 (fun _ => 1) (fun i hi => ?_) ?_]
  · congr 1
    cases hf : fstN (fun o => decide (m.1 8 o = nI c) && (decide (fld w s o 1 = key) && shr w s (q t) o)) (nS w s) with
    | some o =>
      obtain ⟨h1, h2, -⟩ := fstN_some hf
      simp only [Bool.and_eq_true, decide_eq_true_eq] at h2
      obtain ⟨i, hi, rfl⟩ := L.2.2.2 o h1 (decide_eq_true h2.2.1)
      have it : i < t := by
        rcases Nat.lt_or_ge i t with z | z
        · exact z
        · exfalso
          have := M.2 (q i) (by omega) (fun u hu e => by have := RLinj L (show u < n by omega) hi e; omega)
          rw [h2.1] at this
          exact nI_m1 hc this
      have e1 := M.1 i it
      rw [h2.1] at e1
      have e2 := (nI_eq hc (by have := lb i hi; omega)).mp e1
      rw [if_pos ((anyN_iff t).mpr ⟨i, it, by simp only [h2.2.2, Bool.true_and]; exact decide_eq_true e2.symm⟩)]
    | none =>
      have no := fstN_no hf
      rw [if_neg]
      intro z
      obtain ⟨i, hi, hz⟩ := (anyN_iff t).mp z
      simp only [Bool.and_eq_true, decide_eq_true_eq] at hz
      have a := no (q i) (RLlt L (by omega))
      have b := M.1 i hi
      rw [hz.2] at b
      rw [decide_eq_true b, (show decide (fld w s (q i) 1 = key) = true from (L.2.1 i (by omega)).2), hz.1] at a
      cases a
  · unfold f_Mo_isLaned_b3
    rw [if_pos (many_ix hs rfl).1, (many_ix hs rfl).2, Nat.zero_add, hw, (R s hs).1, if_pos (nle _)]
    rfl
  · unfold f_Mo_isLaned_b3
    rw [if_pos (many_ix hs rfl).1, (many_ix hs rfl).2, Nat.zero_add, Nat.zero_add, hw, (R s hs).1, if_neg (ngt hi hN), if_pos (inb_nI (show i < 40 by omega) (by decide)), ix_nI (by omega), M_of (h := m) hs (show i < 40 by omega) (k := 1) (v3 := 1) (by omega) rfl rfl rfl, M_of (h := m) hs (show q t < 40 by omega) (k := 1) (v3 := 1) (by omega) rfl rfl rfl, hw, M_doShare hw R hs qt hi, kt, nI_1]
    simp only [Option.bind_some, Bool.and_eq_true, decide_eq_true_eq]
    by_cases a : m.1 8 i = nI c
    · by_cases b : fld w s i 1 = key
      · by_cases d : shr w s (q t) i = true
        · rw [if_pos a, if_pos b, if_pos d, if_neg one0, if_pos (show m.1 8 i = nI c ∧ fld w s i 1 = key ∧ shr w s (q t) i = true from ⟨a, b, d⟩)]; rfl
        · rw [if_pos a, if_pos b, if_neg d, if_pos rfl, if_neg (fun z => d z.2.2)]
      · rw [if_pos a, if_neg b, if_neg (fun z => b z.2.1)]
    · rw [if_neg a, if_neg (fun z => a z.1)]
set_option maxHeartbeats 400000 in
theorem M_lane32 {key : Int32} (hw : m.1 1 = w) (R : RowsOk w) (hs : s < 2) (L : RL h n q (fun o => decide (fld w s o 1 = key)) (sp w s) (nS w s)) (hn : n ≤ 40) {T : Nat} (hT : T < n) (M : LM m w s q 0) : ∃ m', f_Mo_lane_l32 0 m (nI s) (nI (q T)) m = some (m', nI (la (fun a b => shr w s (q a) (q b)) T)) ∧ frM [8] [] m m' := by
  have hN := (R s hs).2.1
  have qT := RLlt L hT
  have kT := of_decide_eq_true (L.2.1 T hT).2
  have lb : ∀ t, t < n → la (fun a b => shr w s (q a) (q b)) t < 40 := fun t ht => by
    have := la_ub (fun a b => shr w s (q a) (q b)) t; omega
  unfold f_Mo_lane_l32
  have key := loop_inv (body := fun x : HP => f_Mo_lane_b32 0 x (nI s) (nI (q T))) (fun t x => LM x w s q t ∧ frM [8] [] m x) (T + 1) (fun x => x.2 = nI (la (fun a b => shr w s (q a) (q b)) T) ∧ frM [8] [] m x.1) (fun t x ht hI => ?_) (fun x hI => ?_) m ⟨M, frM.rf⟩
  · obtain ⟨⟨m', r⟩, e, e2, F⟩ := key
    replace e2 : r = nI (la (fun a b => shr w s (q a) (q b)) T) := e2
    exact ⟨m', by rw [e, e2], F⟩
  · obtain ⟨Mx, F⟩ := hI
    have hwx : x.1 1 = w := by rw [F.1 1 (by decide) (by decide)]; exact hw
    have qt := RLlt L (show t < n by omega)
    have none : x.1 8 (q T) = -1 := Mx.2 (q T) (by omega) (fun u hu e => by
      have := RLinj L (show u < n by omega) hT e
      omega)
    unfold f_Mo_lane_b32
    rw [if_pos (inb_nI (show q T < 40 by omega) (by decide)), ix_nI (by omega), Nat.zero_add, if_pos none, M_of (h := x) hs (show q T < 40 by omega) (k := 1) (v3 := 1) (by omega) rfl rfl rfl, hwx, kT]
    simp only [Option.bind_some]
    rw [M_next hwx R hs L hn (by omega) Mx]
    simp only [Option.bind_some]
    refine ⟨upI x 8 (q t) (nI (la (fun a b => shr w s (q a) (q b)) t)), ?_, ⟨fun u hu => ?_, fun o ho no => ?_⟩, F.tr (frM.up _ _ (by decide) (by decide))⟩
    · unfold f_Mo_lane_l58
      refine loop_up (fun c => nI c) (la (fun a b => shr w s (q a) (q b)) t) (fun c hc => ?_) ?_
      · show f_Mo_lane_b58 0 x (nI s) (nI (q T)) (nI (q t)) (nI c) = _
        unfold f_Mo_lane_b58
        have := lb t (by omega)
        rw [M_laned hwx R hs L hn (by omega) (by omega) Mx, la_lo (fun a b => shr w s (q a) (q b)) hc, nI_1]
        rfl
      · show f_Mo_lane_b58 0 x (nI s) (nI (q T)) (nI (q t)) (nI (la (fun a b => shr w s (q a) (q b)) t)) = _
        unfold f_Mo_lane_b58
        have := lb t (by omega)
        rw [M_laned hwx R hs L hn (by omega) (by omega) Mx, la_at (fun a b => shr w s (q a) (q b)) (by omega)]
        simp only [Option.bind_some]
        rw [if_neg (show ¬ (false = true) by decide), if_pos rfl, if_pos (inb_nI (show q t < 40 by omega) (by decide)), ix_nI (by omega)]
        rfl
    · rw [upI_s]
      by_cases z : q u = q t
      · rw [if_pos z, RLinj L (show u < n by omega) (show t < n by omega) z]
      · rw [if_neg z]
        refine Mx.1 u ?_
        rcases (show u < t ∨ u = t by omega) with y | y
        · exact y
        · rw [y] at z; exact absurd rfl z
    · rw [upI_s, if_neg (fun e => no t (by omega) e.symm)]
      exact Mx.2 o ho (fun u hu => no u (by omega))
  · obtain ⟨Mx, F⟩ := hI
    have e := Mx.1 T (by omega)
    show ∃ t, f_Mo_lane_b32 0 x (nI s) (nI (q T)) = some (Sum.inr t) ∧ _
    unfold f_Mo_lane_b32
    rw [if_pos (inb_nI (show q T < 40 by omega) (by decide)), ix_nI (by omega), Nat.zero_add, e, if_neg (nI_m1 (by have := lb T hT; omega))]
    rw [if_pos (inb_nI (show q T < 40 by omega) (by decide))]
    exact ⟨(x, _), rfl, rfl, F⟩
set_option maxHeartbeats 400000 in
theorem M_lane13 (m : HP) (v1 v2 : Int32) : ∃ m', f_Mo_lane_l13 0 m v1 v2 (m, 0) = f_Mo_lane_l32 0 m' v1 v2 m' ∧ (∀ o, o < 40 → m'.1 8 o = -1) ∧ frM [8] [] m m' := by
  have st : ∀ k, k ≤ 40 → ∃ m', f_Mo_lane_l13 0 m v1 v2 (m, 0) = f_Mo_lane_l13 0 m v1 v2 (m', nI k) ∧ (∀ o, o < k → m'.1 8 o = -1) ∧ frM [8] [] m m' := by
    intro k
    induction k with
    | zero => intro _; exact ⟨m, rfl, fun o ho => by omega, frM.rf⟩
    | succ k ih =>
      intro hk
      obtain ⟨m', e, a, F⟩ := ih (by omega)
      refine ⟨upI m' 8 k (-1), ?_, fun o ho => ?_, F.tr (frM.up _ _ (by decide) (by decide))⟩
      · rw [e]
        unfold f_Mo_lane_l13
        refine loop_inl ?_
        show f_Mo_lane_b13 0 m' v1 v2 (nI k) = _
        unfold f_Mo_lane_b13
        rw [if_neg (show ¬ (40 : Int32) ≤ nI k from nI_ge (b := 40) (by omega) (by decide)), if_pos (inb_nI (show k < 40 by omega) (by decide)), ix_nI (by omega), nI_1]
      · rw [upI_s]
        by_cases z : o = k
        · rw [if_pos z]
        · rw [if_neg z]; exact a o (by omega)
  obtain ⟨m', e, a, F⟩ := st 40 (Nat.le_refl _)
  refine ⟨m', ?_, a, F⟩
  rw [e]
  have b : f_Mo_lane_b13 0 m' v1 v2 (nI 40) = Option.map Sum.inr (f_Mo_lane_l32 0 m' v1 v2 m') := by
    unfold f_Mo_lane_b13
    rw [if_pos (show (40 : Int32) ≤ nI 40 from nle 40)]
  unfold f_Mo_lane_l13
  exact loop_fin b
end LB
set_option maxHeartbeats 400000 in
theorem X_lane30 {h : HP} {w : Nat → Int32} {s r : Nat} (V : RV h (rc 1 s) w s (nS w s)) (R : RowsOk w) (hs : s < 2) (hr : r < nS w s) (C : CW h 32 0 (fun t => lN (cdN (sp w s) (nth (fun o => decide (fld w s o 1 = fld w s r 1)) t)))) (K : HP × Int32 → Prop) (hK : ∀ h' q, frC 32 h h' → RL h' (cN (fun o => decide (fld w s o 1 = fld w s r 1)) (nS w s)) q (fun o => decide (fld w s o 1 = fld w s r 1)) (sp w s) (nS w s) → ∃ t, f_TJ_lane_l96 0 h' (nI r) (rc 1 s) (h', 0) = some t ∧ K t) : ∃ t, f_TJ_lane_l30 0 h (nI r) (rc 1 s) (h, 0) = some t ∧ K t := by
  have hN := V.1
  unfold f_TJ_lane_l30
  refine loop_inv (fun i x => ∃ h', x = (h', nI i) ∧ frC 32 h h' ∧ CW h' 32 (cN (fun o => decide (fld w s o 1 = fld w s r 1)) i) (fun t => lN (cdN (sp w s) (nth (fun o => decide (fld w s o 1 = fld w s r 1)) t)))) (nS w s) K (fun i x hi hI => ?_) (fun x hI => ?_) (h, 0) ⟨h, rfl, frC.rf, C⟩
  · obtain ⟨h', rfl, F, C'⟩ := hI
    have V' := RV.fc V F
    show ∃ s', f_TJ_lane_b30 0 h' (nI r) (rc 1 s) (nI i) = some (Sum.inl s') ∧ _
    unfold f_TJ_lane_b30
    rw [V'.2.1, if_neg (ngt hi hN), if_pos (inb_nI (show i < 40 by omega) (by decide)), if_pos (inb_nI (show r < 40 by omega) (by decide)), ix_nI (by omega), ix_nI (by omega), (V'.2.2 i hi).2.1, (V'.2.2 r hr).2.1, X_start V' hi, nI_1]
    simp only [Option.bind_some, Nat.zero_add]
    by_cases k : fld w s i 1 = fld w s r 1
    · have b := sp_rng R hs hi
      obtain ⟨h2, e2, C2, F2⟩ := CW_row C' (show i < 160 by omega) (decide_eq_true k)
      rw [if_pos k, cod_lN (by omega) (by omega) (by omega)]
      rw [show lN (pN (sp w s i) * 64 + i) = lN (cdN (sp w s) i) from rfl, e2]
      exact ⟨_, rfl, h2, rfl, F.tr F2, C2⟩
    · rw [if_neg k]
      exact ⟨_, rfl, h', rfl, F, CW_skip C' (decide_eq_false k)⟩
  · obtain ⟨h', rfl, F, C'⟩ := hI
    have V' := RV.fc V F
    show ∃ t, f_TJ_lane_b30 0 h' (nI r) (rc 1 s) (nI (nS w s)) = some (Sum.inr t) ∧ K t
    unfold f_TJ_lane_b30
    obtain ⟨h2, q, e2, L, F2⟩ := RL_sort hN (fun o ho => by
      have b := sp_rng R hs ho
      unfold pN; omega) C'
    obtain ⟨t, et, kt⟩ := hK h2 q (F.tr F2) L
    rw [V'.2.1, if_pos (nle _)]
    simp only [Nat.zero_add]
    rw [e2]
    simp only [Option.bind_some]
    rw [et]
    exact ⟨t, rfl, kt⟩
set_option maxHeartbeats 400000 in
theorem q_lane {h m : HP} {w : Nat → Int32} (Q : RQ h m w) (v1 v2 : Int32) : Alike2 h m (f_TJ_lane 0 h v1 v2) (f_Mo_lane 0 m v1 v2) := by
  obtain ⟨hw, V, R, -, hW⟩ := Q
  unfold f_TJ_lane f_Mo_lane
  rcases isRow_both hw V R v1 v2 with ⟨a, b⟩ | ⟨a, b, s, r, hs, hr, rfl, rfl⟩
  · rw [a, b]
    exact ⟨h, m, _, rfl, rfl, keepX.rf, keepM.rf⟩
  · rw [a, b]
    simp only [Option.bind_some]
    rw [if_neg one0, if_neg one0, X_rowsOf (b := 0 + 1) hs rfl]
    simp only [Option.bind_some]
    have hN := (R s hs).2.1
    have hcn := cN_le (fun o => decide (fld w s o 1 = fld w s r 1)) (nS w s)
    obtain ⟨h1, e1, C1, F1⟩ := X_cempty h 32 (fun t => lN (cdN (sp w s) (nth (fun o => decide (fld w s o 1 = fld w s r 1)) t)))
    have V1 := RV.fc (V.rv hs) F1
    rw [show f_Co_empty (0 + 32) h = some h1 from e1]
    simp only [Option.bind_some]
    obtain ⟨m1, em, am, Fm⟩ := M_lane13 m (nI s) (nI r)
    have hwm : m1.1 1 = w := by rw [Fm.1 1 (by decide) (by decide)]; exact hw
    rw [em]
    have key := X_lane30 V1 R hs hr C1 (fun t => keepX h t.1 ∧ ∃ m', f_Mo_lane_l32 0 m1 (nI s) (nI r) m1 = some (m', t.2) ∧ keepM m m') (fun h' q F L => ?_)
    · obtain ⟨⟨h', r'⟩, et, kx, m', e', kM⟩ := key
      exact ⟨h', m', r', et, e', kx, kM⟩
    · have V2 := RV.fc V1 F
      obtain ⟨T, hT, rfl⟩ := L.2.2.2 r hr (decide_eq_true rfl)
      obtain ⟨h2, e2, F2⟩ := X_lane96 V2 (by unfold rc; split <;> omega) L (by omega) hT
      obtain ⟨m2, e3, F3⟩ := M_lane32 hwm R hs L (by omega) hT ⟨fun u hu => by omega, fun o ho _ => am o ho⟩
      refine ⟨_, e2, fun a ha => ?_, m2, e3, (Fm.tr F3).kM (by decide) (by decide) (by decide) (by decide) (by decide)⟩
      rw [F2 a (by simp; omega), (F1.tr F).1 a (by omega)]
