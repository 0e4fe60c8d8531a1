/-! one: the reference's components -/
def rl (w : Nat → Int32) (s a b : Nat) : Bool := decide (fld w s a 1 = fld w s b 1) && (decide (fld w s a 4 = fld w s b 4) && (decide (sp w s a ≤ ep w s b) && decide (sp w s b ≤ ep w s a)))
set_option maxHeartbeats 400000 in
theorem rl_iff {w : Nat → Int32} {s a b : Nat} : rl w s a b = true ↔ fld w s a 1 = fld w s b 1 ∧ fld w s a 4 = fld w s b 4 ∧ sp w s a ≤ ep w s b ∧ sp w s b ≤ ep w s a := by
  simp only [rl, Bool.and_eq_true, decide_eq_true_eq]
set_option maxHeartbeats 400000 in
theorem rl_sym {w : Nat → Int32} {s a b : Nat} (h : rl w s a b = true) : rl w s b a = true := by
  rw [rl_iff] at h ⊢
  exact ⟨h.1.symm, h.2.1.symm, h.2.2.2, h.2.2.1⟩
set_option maxHeartbeats 400000 in
theorem kK_in11 {s e t f : Int32} (h1 : s < e) (h2 : t < f) : (1 ≤ kK s e t f ∧ kK s e t f ≤ 11) ↔ (s ≤ f ∧ t ≤ e) := by
  by_cases a : e < t
  · have e0 : kK s e t f = 0 := by unfold kK; rw [if_pos a]
    rw [e0]
    exact ⟨fun z => absurd z.1 (by decide), fun z => absurd z.2 (Int32.not_le.mpr a)⟩
  · by_cases b : e = t
    · have e0 : kK s e t f = 1 := by unfold kK; rw [if_neg a, if_pos b]
      rw [e0]
      refine ⟨fun _ => ⟨Int32.le_of_lt (Int32.lt_trans h1 (b ▸ h2)), by rw [b]; exact Int32.le_refl _⟩, fun _ => by decide⟩
    · by_cases c : f < s
      · have e0 : kK s e t f = 12 := by unfold kK; rw [if_neg a, if_neg b, if_pos c]
        rw [e0]
        exact ⟨fun z => absurd z.2 (by decide), fun z => absurd z.1 (Int32.not_le.mpr c)⟩
      · by_cases d : f = s
        · have e0 : kK s e t f = 11 := by unfold kK; rw [if_neg a, if_neg b, if_neg c, if_pos d]
          rw [e0]
          exact ⟨fun _ => ⟨by rw [d]; exact Int32.le_refl _, Int32.not_lt.mp a⟩, fun _ => by decide⟩
        · have x : s < f := by
            rcases Int32.lt_or_eq_of_le (Int32.not_lt.mp c) with y | y
            · exact y
            · exact absurd y.symm d
          have y : t < e := by
            rcases Int32.lt_or_eq_of_le (Int32.not_lt.mp a) with y | y
            · exact y
            · exact absurd y.symm b
          have k := (kK_in h1 h2).mpr ⟨x, y⟩
          exact ⟨fun _ => ⟨Int32.le_of_lt x, Int32.le_of_lt y⟩, fun _ => ⟨Int32.le_trans (by decide) k.1, Int32.le_trans k.2 (by decide)⟩⟩
set_option maxHeartbeats 400000 in
theorem M_isOne {m : HP} {w : Nat → Int32} (hw : m.1 1 = w) (R : RowsOk w) {s a b : Nat} (hs : s < 2) (ha : a < nS w s) (hb : b < nS w s) : f_Mo_isOne 0 m (nI s) (nI a) (nI b) = some (if rl w s a b then 1 else 0) := by
  have hn := (R s hs).2.1
  unfold f_Mo_isOne
  rw [M_of (h := m) hs (show a < 40 by omega) (k := 1) (v3 := 1) (by omega) rfl rfl rfl, M_of (h := m) hs (show b < 40 by omega) (k := 1) (v3 := 1) (by omega) rfl rfl rfl, M_of (h := m) hs (show a < 40 by omega) (k := 4) (v3 := 4) (by omega) rfl rfl rfl, M_of (h := m) hs (show b < 40 by omega) (k := 4) (v3 := 4) (by omega) rfl rfl rfl, M_kindB (h := m) hs (show a < 40 by omega) hs (show b < 40 by omega) rfl rfl rfl rfl, hw]
  simp only [Option.bind_some, M_isIn]
  have k := kK_in11 (sp_lt_ep R hs ha) (sp_lt_ep R hs hb)
  by_cases x : fld w s a 1 = fld w s b 1
  · rw [if_pos x]
    by_cases y : fld w s a 4 = fld w s b 4
    · rw [if_pos y]
      by_cases z : sp w s a ≤ ep w s b ∧ sp w s b ≤ ep w s a
      · rw [if_pos (k.mpr z), if_neg one0, if_pos (rl_iff.mpr ⟨x, y, z⟩)]
      · rw [if_neg (fun u => z (k.mp u)), if_pos rfl, if_neg (fun u => z (rl_iff.mp u).2.2)]
    · rw [if_neg y, if_neg (fun u => y (rl_iff.mp u).2.1)]
  · rw [if_neg x, if_neg (fun u => x (rl_iff.mp u).1)]
def FV (m : HP) (F : Nat → Nat) (N : Nat) : Prop := ∀ a, a < N → m.1 6 a = nI (F a)
def RF (w : Nat → Int32) (s N : Nat) (G : Nat → Nat) : Prop := ∀ a b, a < N → b < N → rl w s a b = true → G a = G b
def JF (w : Nat → Int32) (s N : Nat) (F : Nat → Nat) : Prop := (∀ a, a < N → F a ≤ a) ∧ ∀ G, RF w s N G → ∀ a, a < N → G (F a) = G a
def smF (F : Nat → Nat) : Nat → Nat
  | 0 => 0
  | n + 1 => smF F n + F n
set_option maxHeartbeats 400000 in
theorem smF_up {F : Nat → Nat} {a v : Nat} (hv : v < F a) : ∀ n, smF (fun x => if x = a then v else F x) n + (if a < n then 1 else 0) ≤ smF F n
  | 0 => by simp [smF]
  | n + 1 => by
    have ih := smF_up hv n
    simp only [smF]
    by_cases z : n = a
    · subst z
      rw [if_neg (Nat.lt_irrefl _)] at ih
      rw [if_pos rfl, if_pos (Nat.lt_succ_self _)]
      omega
    · rw [if_neg z]
      by_cases y : a < n
      · rw [if_pos y] at ih; rw [if_pos (by omega)]; omega
      · rw [if_neg y] at ih; rw [if_neg (by omega)]; omega
set_option maxHeartbeats 400000 in
theorem smF_congr {F G : Nat → Nat} : ∀ n, (∀ a, a < n → F a = G a) → smF F n = smF G n
  | 0, _ => rfl
  | n + 1, h => by simp only [smF]; rw [smF_congr n (fun a ha => h a (by omega)), h n (by omega)]
def OI (w : Nat → Int32) (s N : Nat) (F0 F : Nat → Nat) (more : Int32) (a b : Nat) : Prop := JF w s N F ∧ ((more = 0 ∧ F = F0 ∧ ∀ a' b', a' < N → b' < N → (a' < a ∨ (a' = a ∧ b' < b)) → rl w s a' b' = true → F0 a' ≤ F0 b') ∨ (more = 1 ∧ smF F N < smF F0 N))
section ON
variable {m : HP} {w : Nat → Int32} {s : Nat} {F0 : Nat → Nat}
set_option maxHeartbeats 400000 in
theorem M_one49 (hw : m.1 1 = w) (R : RowsOk w) (hs : s < 2) {a : Nat} (ha : a < nS w s) {F : Nat → Nat} {more : Int32} (V : FV m F (nS w s)) (O : OI w s (nS w s) F0 F more a 0) : ∃ m' F' more', f_Mo_makesOne_l49 0 m (nI s) (nI (nS w s)) (nI a) (m, more, 0) = some (Sum.inl (m', more', nI (a + 1))) ∧ FV m' F' (nS w s) ∧ OI w s (nS w s) F0 F' more' (a + 1) 0 ∧ frM [6] [] m m' := by
  have hn := (R s hs).2.1
  unfold f_Mo_makesOne_l49
  have key := loop_inv (body := fun x : HP × Int32 × Int32 => f_Mo_makesOne_b49 0 x.1 (nI s) (nI (nS w s)) (nI a) x.2.1 x.2.2) (fun b x => ∃ m' F' more', x = (m', more', nI b) ∧ FV m' F' (nS w s) ∧ OI w s (nS w s) F0 F' more' a b ∧ frM [6] [] m m') (nS w s) (fun y => ∃ m' F' more', y = Sum.inl (m', more', nI (a + 1)) ∧ FV m' F' (nS w s) ∧ OI w s (nS w s) F0 F' more' (a + 1) 0 ∧ frM [6] [] m m') (fun b x hb hI => ?_) (fun x hI => ?_) (m, more, 0) ⟨m, F, more, rfl, V, O, frM.rf⟩
  · obtain ⟨y, e, m', F', more', rfl, V', O', Fr⟩ := key
    exact ⟨m', F', more', e, V', O', Fr⟩
  · obtain ⟨m', F', more', rfl, V', O', Fr⟩ := hI
    have hw' : m'.1 1 = w := by rw [Fr.1 1 (by decide) (by decide)]; exact hw
    have fa := O'.1.1 a ha
    have fb := O'.1.1 b hb
    show ∃ s', f_Mo_makesOne_b49 0 m' (nI s) (nI (nS w s)) (nI a) more' (nI b) = some (Sum.inl s') ∧ _
    unfold f_Mo_makesOne_b49
    rw [if_neg (ngt hb hn), if_pos (inb_nI (show a < 40 by omega) (by decide)), if_pos (inb_nI (show b < 40 by omega) (by decide)), ix_nI (by omega), ix_nI (by omega), Nat.zero_add, V' a ha, V' b hb, M_isOne hw' R hs ha hb, nI_1]
    simp only [Option.bind_some]
    have keep : (rl w s a b = true → F' a ≤ F' b) → OI w s (nS w s) F0 F' more' a (b + 1) := fun z => by
      refine ⟨O'.1, ?_⟩
      rcases O'.2 with ⟨e1, e2, e3⟩ | e1
      · refine Or.inl ⟨e1, e2, fun a' b' h1 h2 h3 h4 => ?_⟩
        rcases h3 with h3 | ⟨h3, h5⟩
        · exact e3 a' b' h1 h2 (Or.inl h3) h4
        · rcases (show b' < b ∨ b' = b by omega) with y | y
          · exact e3 a' b' h1 h2 (Or.inr ⟨h3, y⟩) h4
          · rw [h3, y] at h4 ⊢
            rw [← e2]; exact z h4
      · exact Or.inr e1
    by_cases z : F' a ≤ F' b
    · rw [if_pos (nI_le z (by omega))]
      exact ⟨_, rfl, m', F', more', rfl, V', keep (fun _ => z), Fr⟩
    · rw [if_neg (nI_ge (by omega) (by omega))]
      by_cases y : rl w s a b = true
      · rw [if_pos y, if_neg one0, if_pos (inb_nI (show b < 40 by omega) (by decide)), if_pos (inb_nI (show a < 40 by omega) (by decide))]
        refine ⟨_, rfl, _, (fun x => if x = a then F' b else F' x), 1, rfl, fun x hx => ?_, ⟨⟨fun x hx => ?_, fun G hG x hx => ?_⟩, Or.inr ⟨rfl, ?_⟩⟩, Fr.tr (frM.up _ _ (by decide) (by decide))⟩
        · rw [upI_s]
          show (if x = a then nI (F' b) else m'.1 6 x) = nI (if x = a then F' b else F' x)
          by_cases u : x = a
          · rw [if_pos u, if_pos u]
          · rw [if_neg u, if_neg u]; exact V' x hx
        · show (if x = a then F' b else F' x) ≤ x
          by_cases u : x = a
          · rw [if_pos u]; omega
          · rw [if_neg u]; exact O'.1.1 x hx
        · show G (if x = a then F' b else F' x) = G x
          by_cases u : x = a
          · rw [if_pos u, O'.1.2 G hG b hb, u]; exact (hG a b ha hb y).symm
          · rw [if_neg u]; exact O'.1.2 G hG x hx
        · have su := smF_up (F := F') (a := a) (v := F' b) (by omega) (nS w s)
          rw [if_pos ha] at su
          rcases O'.2 with ⟨-, e2, -⟩ | ⟨-, e2⟩
          · rw [e2] at su ⊢; omega
          · omega
      · rw [if_neg y, if_pos rfl]
        exact ⟨_, rfl, m', F', more', rfl, V', keep (fun u => absurd u y), Fr⟩
  · obtain ⟨m', F', more', rfl, V', O', Fr⟩ := hI
    show ∃ t, f_Mo_makesOne_b49 0 m' (nI s) (nI (nS w s)) (nI a) more' (nI (nS w s)) = some (Sum.inr t) ∧ _
    unfold f_Mo_makesOne_b49
    rw [if_pos (nle _), nI_1]
    refine ⟨_, rfl, m', F', more', rfl, V', ⟨O'.1, ?_⟩, Fr⟩
    rcases O'.2 with ⟨e1, e2, e3⟩ | e1
    · exact Or.inl ⟨e1, e2, fun a' b' h1 h2 h3 h4 => e3 a' b' h1 h2 (by omega) h4⟩
    · exact Or.inr e1
set_option maxHeartbeats 400000 in
theorem M_one40 (hw : m.1 1 = w) (R : RowsOk w) (hs : s < 2) {F : Nat → Nat} (V : FV m F (nS w s)) (J : JF w s (nS w s) F) : ∃ m' F' more', f_Mo_makesOne_l40 0 m (nI s) (nI (nS w s)) (m, 0, 0) = some (Sum.inl (m', more')) ∧ FV m' F' (nS w s) ∧ OI w s (nS w s) F F' more' (nS w s) 0 ∧ frM [6] [] m m' := by
  have hn := (R s hs).2.1
  unfold f_Mo_makesOne_l40
  have key := loop_inv (body := fun x : HP × Int32 × Int32 => f_Mo_makesOne_b40 0 x.1 (nI s) (nI (nS w s)) x.2.1 x.2.2) (fun a x => ∃ m' F' more', x = (m', more', nI a) ∧ FV m' F' (nS w s) ∧ OI w s (nS w s) F F' more' a 0 ∧ frM [6] [] m m') (nS w s) (fun y => ∃ m' F' more', y = Sum.inl (m', more') ∧ FV m' F' (nS w s) ∧ OI w s (nS w s) F F' more' (nS w s) 0 ∧ frM [6] [] m m') (fun a x ha hI => ?_) (fun x hI => ?_) (m, 0, 0) ⟨m, F, 0, rfl, V, ⟨J, Or.inl ⟨rfl, rfl, fun a' b' _ _ h _ => by omega⟩⟩, frM.rf⟩
  · obtain ⟨y, e, m', F', more', rfl, V', O', Fr⟩ := key
    exact ⟨m', F', more', e, V', O', Fr⟩
  · obtain ⟨m', F', more', rfl, V', O', Fr⟩ := hI
    have hw' : m'.1 1 = w := by rw [Fr.1 1 (by decide) (by decide)]; exact hw
    obtain ⟨m2, F2, more2, e2, V2, O2, Fr2⟩ := M_one49 hw' R hs ha V' O'
    show ∃ s', f_Mo_makesOne_b40 0 m' (nI s) (nI (nS w s)) more' (nI a) = some (Sum.inl s') ∧ _
    unfold f_Mo_makesOne_b40
    rw [if_neg (ngt ha hn), e2]
    exact ⟨_, rfl, m2, F2, more2, rfl, V2, O2, Fr.tr Fr2⟩
  · obtain ⟨m', F', more', rfl, V', O', Fr⟩ := hI
    show ∃ t, f_Mo_makesOne_b40 0 m' (nI s) (nI (nS w s)) more' (nI (nS w s)) = some (Sum.inr t) ∧ _
    unfold f_Mo_makesOne_b40
    rw [if_pos (nle _)]
    exact ⟨_, rfl, m', F', more', rfl, V', O', Fr⟩
/-- what the reference's components are -/
def FW (w : Nat → Int32) (s N : Nat) (F : Nat → Nat) : Prop := JF w s N F ∧ RF w s N F
set_option maxHeartbeats 400000 in
theorem M_one31 (hw : m.1 1 = w) (R : RowsOk w) (hs : s < 2) {F : Nat → Nat} (V : FV m F (nS w s)) (J : JF w s (nS w s) F) : ∃ m', f_Mo_makesOne_l31 0 m (nI s) (nI (nS w s)) (m, 1) = some m' ∧ ∃ F', FV m' F' (nS w s) ∧ FW w s (nS w s) F' ∧ frM [6] [] m m' := by
  have hn := (R s hs).2.1
  unfold f_Mo_makesOne_l31
  refine loop_ms (body := fun x : HP × Int32 => f_Mo_makesOne_b31 0 x.1 (nI s) (nI (nS w s)) x.2) (fun x => ∃ F', FV x.1 F' (nS w s) ∧ JF w s (nS w s) F' ∧ frM [6] [] m x.1 ∧ (x.2 = 1 ∨ (x.2 = 0 ∧ RF w s (nS w s) F'))) (fun x => if x.2 = 0 then 0 else smF (fun a => ix (x.1.1 6 a)) (nS w s) + 1) (fun m' => ∃ F', FV m' F' (nS w s) ∧ FW w s (nS w s) F' ∧ frM [6] [] m m') (fun x hI => ?_) (m, 1) ⟨F, V, J, frM.rf, Or.inl rfl⟩
  obtain ⟨m', more⟩ := x
  obtain ⟨F', V', J', Fr, hx⟩ := hI
  replace V' : FV m' F' (nS w s) := V'
  replace Fr : frM [6] [] m m' := Fr
  replace hx : more = 1 ∨ (more = 0 ∧ RF w s (nS w s) F') := hx
  rcases hx with rfl | ⟨rfl, hR⟩
  · left
    have hw' : m'.1 1 = w := by rw [Fr.1 1 (by decide) (by decide)]; exact hw
    obtain ⟨m2, F2, more2, e2, V2, O2, Fr2⟩ := M_one40 hw' R hs V' J'
    have sm : ∀ (mm : HP) (FF : Nat → Nat), FV mm FF (nS w s) → JF w s (nS w s) FF → smF (fun a => ix (mm.1 6 a)) (nS w s) = smF FF (nS w s) := fun mm FF h1 h2 => smF_congr _ (fun a ha => by
      show ix (mm.1 6 a) = FF a
      rw [h1 a ha, ix_nI (by have := h2.1 a ha; omega)])
    refine ⟨(m2, more2), ?_, ⟨F2, V2, O2.1, Fr.tr Fr2, ?_⟩, ?_⟩
    · show f_Mo_makesOne_b31 0 m' (nI s) (nI (nS w s)) 1 = _
      unfold f_Mo_makesOne_b31
      rw [if_neg one0, e2]
    · rcases O2.2 with ⟨e, eF, hh⟩ | ⟨e, -⟩
      · refine Or.inr ⟨e, fun a b ha hb h => ?_⟩
        rw [eF]
        exact Nat.le_antisymm (hh a b ha hb (Or.inl ha) h) (hh b a hb ha (Or.inl hb) (rl_sym h))
      · exact Or.inl e
    · show (if more2 = 0 then 0 else smF (fun a => ix (m2.1 6 a)) (nS w s) + 1) < (if (1 : Int32) = 0 then 0 else smF (fun a => ix (m'.1 6 a)) (nS w s) + 1)
      rw [if_neg one0, sm m' F' V' J', sm m2 F2 V2 O2.1]
      rcases O2.2 with ⟨e, eF, hh⟩ | ⟨e, hl⟩
      · rw [if_pos e]; omega
      · rw [e, if_neg one0]; omega
  · right
    refine ⟨m', ?_, F', V', ⟨J', hR⟩, Fr⟩
    show f_Mo_makesOne_b31 0 m' (nI s) (nI (nS w s)) 0 = _
    unfold f_Mo_makesOne_b31
    rw [if_pos rfl]; rfl
set_option maxHeartbeats 400000 in
theorem M_makesOne (hw : m.1 1 = w) (R : RowsOk w) (hs : s < 2) : ∃ m' F, f_Mo_makesOne 0 m (nI s) = some m' ∧ FV m' F (nS w s) ∧ FW w s (nS w s) F ∧ frM [6] [] m m' := by
  have hn := (R s hs).2.1
  unfold f_Mo_makesOne f_Mo_makesOne_l11
  rw [if_pos (many_ix hs rfl).1, (many_ix hs rfl).2, Nat.zero_add, hw, (R s hs).1]
  have key := loop_inv (body := fun x : HP × Int32 => f_Mo_makesOne_b11 0 x.1 (nI s) (nI (nS w s)) x.2) (fun i x => ∃ m', x = (m', nI i) ∧ FV m' id i ∧ frM [6] [] m m') (nS w s) (fun m' => ∃ F, FV m' F (nS w s) ∧ FW w s (nS w s) F ∧ frM [6] [] m m') (fun i x hi hI => ?_) (fun x hI => ?_) (m, 0) ⟨m, rfl, fun a ha => by omega, frM.rf⟩
  · obtain ⟨m', e, F, a, b, c⟩ := key
    exact ⟨m', F, e, a, b, c⟩
  · obtain ⟨m', rfl, V', Fr⟩ := hI
    show ∃ s', f_Mo_makesOne_b11 0 m' (nI s) (nI (nS w s)) (nI i) = some (Sum.inl s') ∧ _
    unfold f_Mo_makesOne_b11
    rw [if_neg (ngt hi hn), if_pos (inb_nI (show i < 40 by omega) (by decide)), ix_nI (by omega), nI_1]
    refine ⟨_, rfl, _, rfl, fun a ha => ?_, Fr.tr (frM.up _ _ (by decide) (by decide))⟩
    rw [upI_s]
    by_cases z : a = i
    · rw [if_pos z, z]; rfl
    · rw [if_neg z]; exact V' a (by omega)
  · obtain ⟨m', rfl, V', Fr⟩ := hI
    have hw' : m'.1 1 = w := by rw [Fr.1 1 (by decide) (by decide)]; exact hw
    show ∃ t, f_Mo_makesOne_b11 0 m' (nI s) (nI (nS w s)) (nI (nS w s)) = some (Sum.inr t) ∧ _
    unfold f_Mo_makesOne_b11
    obtain ⟨m2, e2, F2, V2, W2, Fr2⟩ := M_one31 hw' R hs V' ⟨fun a _ => Nat.le_refl a, fun G _ a _ => rfl⟩
    rw [if_pos (nle _), e2]
    exact ⟨_, rfl, F2, V2, W2, Fr.tr Fr2⟩
end ON
