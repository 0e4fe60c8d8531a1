/-! one: the reference's ranks; both alike -/
set_option maxHeartbeats 400000 in
theorem mnF {p : Nat → Bool} {f : Nat → Int32} {v0 : Int32} : ∀ n, (fI (fun r (v : Int32) => if p r then (if f r < v then f r else v) else v) n v0 = v0 ∨ ∃ o, o < n ∧ p o = true ∧ fI (fun r (v : Int32) => if p r then (if f r < v then f r else v) else v) n v0 = f o) ∧ fI (fun r (v : Int32) => if p r then (if f r < v then f r else v) else v) n v0 ≤ v0 ∧ ∀ o, o < n → p o = true → fI (fun r (v : Int32) => if p r then (if f r < v then f r else v) else v) n v0 ≤ f o
  | 0 => ⟨Or.inl rfl, Int32.le_refl _, fun o h => by omega⟩
  | n + 1 => by
    have ih := mnF (p := p) (f := f) (v0 := v0) n
    simp only [fI]
    generalize fI (fun r (v : Int32) => if p r then (if f r < v then f r else v) else v) n v0 = v at *
    obtain ⟨a, b, c⟩ := ih
    by_cases z : p n = true
    · rw [if_pos z]
      by_cases y : f n < v
      · rw [if_pos y]
        refine ⟨Or.inr ⟨n, by omega, z, rfl⟩, Int32.le_trans (Int32.le_of_lt y) b, fun o h1 h2 => ?_⟩
        rcases (show o < n ∨ o = n by omega) with x | x
        · exact Int32.le_trans (Int32.le_of_lt y) (c o x h2)
        · rw [x]; exact Int32.le_refl _
      · rw [if_neg y]
        refine ⟨?_, b, fun o h1 h2 => ?_⟩
        · rcases a with a | ⟨o, h1, h2, h3⟩
          · exact Or.inl a
          · exact Or.inr ⟨o, by omega, h2, h3⟩
        · rcases (show o < n ∨ o = n by omega) with x | x
          · exact c o x h2
          · rw [x]; exact Int32.not_lt.mp y
    · rw [if_neg z]
      refine ⟨?_, b, fun o h1 h2 => ?_⟩
      · rcases a with a | ⟨o, h1, h2, h3⟩
        · exact Or.inl a
        · exact Or.inr ⟨o, by omega, h2, h3⟩
      · rcases (show o < n ∨ o = n by omega) with x | x
        · exact c o x h2
        · rw [x] at h2; exact absurd h2 z
set_option maxHeartbeats 400000 in
theorem mxF {p : Nat → Bool} {f : Nat → Int32} {v0 : Int32} : ∀ n, (fI (fun r (v : Int32) => if p r then (if v < f r then f r else v) else v) n v0 = v0 ∨ ∃ o, o < n ∧ p o = true ∧ fI (fun r (v : Int32) => if p r then (if v < f r then f r else v) else v) n v0 = f o) ∧ v0 ≤ fI (fun r (v : Int32) => if p r then (if v < f r then f r else v) else v) n v0 ∧ ∀ o, o < n → p o = true → f o ≤ fI (fun r (v : Int32) => if p r then (if v < f r then f r else v) else v) n v0
  | 0 => ⟨Or.inl rfl, Int32.le_refl _, fun o h => by omega⟩
  | n + 1 => by
    have ih := mxF (p := p) (f := f) (v0 := v0) n
    simp only [fI]
    generalize fI (fun r (v : Int32) => if p r then (if v < f r then f r else v) else v) n v0 = v at *
    obtain ⟨a, b, c⟩ := ih
    by_cases z : p n = true
    · rw [if_pos z]
      by_cases y : v < f n
      · rw [if_pos y]
        refine ⟨Or.inr ⟨n, by omega, z, rfl⟩, Int32.le_trans b (Int32.le_of_lt y), fun o h1 h2 => ?_⟩
        rcases (show o < n ∨ o = n by omega) with x | x
        · exact Int32.le_trans (c o x h2) (Int32.le_of_lt y)
        · rw [x]; exact Int32.le_refl _
      · rw [if_neg y]
        refine ⟨?_, b, fun o h1 h2 => ?_⟩
        · rcases a with a | ⟨o, h1, h2, h3⟩
          · exact Or.inl a
          · exact Or.inr ⟨o, by omega, h2, h3⟩
        · rcases (show o < n ∨ o = n by omega) with x | x
          · exact c o x h2
          · rw [x]; exact Int32.not_lt.mp y
    · rw [if_neg z]
      refine ⟨?_, b, fun o h1 h2 => ?_⟩
      · rcases a with a | ⟨o, h1, h2, h3⟩
        · exact Or.inl a
        · exact Or.inr ⟨o, by omega, h2, h3⟩
      · rcases (show o < n ∨ o = n by omega) with x | x
        · exact c o x h2
        · rw [x] at h2; exact absurd h2 z
set_option maxHeartbeats 400000 in
theorem cN_inj {r : Nat → Nat} {N : Nat} : ∀ n, (∀ i, i < n → r i < N) → (∀ i j, i < n → j < n → r i = r j → i = j) → cN (fun b => anyN (fun j => decide (b = r j)) n) N = n
  | 0, _, _ => by
    have : ∀ M, cN (fun b => anyN (fun j => decide (b = r j)) 0) M = 0 := fun M => by
      induction M with
      | zero => rfl
      | succ M ih => rw [show cN (fun b => anyN (fun j => decide (b = r j)) 0) (M + 1) = cN (fun b => anyN (fun j => decide (b = r j)) 0) M + 0 from rfl, ih]
    exact this N
  | n + 1, h1, h2 => by
    have ih := cN_inj (r := r) n (fun i hi => h1 i (by omega)) (fun i j hi hj => h2 i j (by omega) (by omega))
    have := cN_ins (p := fun b => anyN (fun j => decide (b = r j)) (n + 1)) (r := fun b => anyN (fun j => decide (b = r j)) n) (x := r n) N (fun i hi => by simp [anyN, hi]) (by simp [anyN]) (by
      rw [Bool.eq_false_iff]
      intro z
      obtain ⟨u, hu, e⟩ := (anyN_iff n).mp z
      have := h2 n u (by omega) (by omega) (of_decide_eq_true e)
      omega) (h1 n (by omega))
    rw [this, ih]
set_option maxHeartbeats 400000 in
theorem lx_irr {w : Nat → Int32} {s a b : Nat} (h1 : lx w s a b) (h2 : lx w s b a) : False := by
  unfold lx at h1 h2
  rcases h1 with h1 | ⟨e1, h1⟩ <;> rcases h2 with h2 | ⟨e2, h2⟩
  · exact Int32.lt_asymm h1 h2
  · rw [e2] at h1; exact Int32.lt_irrefl h1
  · rw [e1] at h2; exact Int32.lt_irrefl h2
  · rcases h1 with h1 | ⟨f1, h1⟩ <;> rcases h2 with h2 | ⟨f2, h2⟩
    · exact Int32.lt_asymm h1 h2
    · rw [f2] at h1; exact Int32.lt_irrefl h1
    · rw [f1] at h2; exact Int32.lt_irrefl h2
    · exact Int32.lt_asymm h1 h2
section OR
variable {h m : HP} {w : Nat → Int32} {s : Nat} {F : Nat → Nat} {np : Nat} {op : Nat → Nat} {re : Nat → Int32} {ct g : Nat → Nat}
/-- a span's least row, as the reference tells it -/
def rho (F op : Nat → Nat) (i : Nat) : Nat := F (op i)
set_option maxHeartbeats 400000 in
theorem OC_g (R : RowsOk w) (hs : s < 2) (O : OC h w s F (fun _ => true) np op re ct g) : RF w s (nS w s) g := by
  obtain ⟨P, H, L, A, B, C, E⟩ := O
  have main : ∀ a b, a < nS w s → b < nS w s → rl w s a b = true → ¬ g a < g b := by
    intro a b ha hb r lt
    have r := rl_iff.mp r
    have xa := A a ha rfl
    have xb := A b hb rfl
    have d := E (g a) (g b) lt xb.1 (by rw [← xa.2.1, ← xb.2.1]; exact r.1) (by rw [← xa.2.2.1, ← xb.2.2.1]; exact r.2.1)
    have x1 := Int32.lt_of_le_of_lt xa.2.2.2.2.1 (Int32.lt_of_lt_of_le d xb.2.2.2.1)
    exact absurd r.2.2.2 (Int32.not_le.mpr x1)
  intro a b ha hb r
  have h1 := main a b ha hb r
  have h2 := main b a hb ha (rl_sym r)
  omega
set_option maxHeartbeats 400000 in
theorem OC_rho (R : RowsOk w) (hs : s < 2) (W : FW w s (nS w s) F) (O : OC h w s F (fun _ => true) np op re ct g) : (∀ i, i < np → rho F op i < nS w s ∧ g (rho F op i) = i ∧ F (rho F op i) = rho F op i ∧ fld w s (rho F op i) 1 = fld w s (op i) 1 ∧ fld w s (rho F op i) 4 = fld w s (op i) 4) ∧ ∀ o, o < nS w s → g o < np ∧ F o = rho F op (g o) := by
  have G := OC_g R hs O
  obtain ⟨P, H, L, A, B, C, E⟩ := O
  have two : ∀ o, o < nS w s → g o < np ∧ F o = rho F op (g o) := fun o ho => ⟨(A o ho rfl).1, (A o ho rfl).2.2.2.2.2⟩
  refine ⟨fun i hi => ?_, two⟩
  obtain ⟨b1, b2, b3, -⟩ := B i hi
  have f1 := W.1.1 (op i) b1
  have r1 : rho F op i < nS w s := by unfold rho; omega
  have g1 : g (rho F op i) = i := by unfold rho; rw [W.1.2 g G (op i) b1]; exact b3
  have a1 := A (rho F op i) r1 rfl
  rw [g1] at a1
  exact ⟨r1, g1, a1.2.2.2.2.2, a1.2.1, a1.2.2.1⟩
set_option maxHeartbeats 400000 in
theorem M_least (hw : m.1 1 = w) (R : RowsOk w) (hs : s < 2) (W : FW w s (nS w s) F) (V : FV m F (nS w s)) (O : OC h w s F (fun _ => true) np op re ct g) {i : Nat} (hi : i < np) : f_Mo_least 0 m (nI s) (nI (rho F op i)) = some (sp w s (op i)) := by
  have hN := (R s hs).2.1
  obtain ⟨r1, r2⟩ := OC_rho R hs W O
  obtain ⟨a1, a2, a3, a4, a5⟩ := r1 i hi
  obtain ⟨P, H, L, A, B, C, E⟩ := O
  obtain ⟨b1, b2, b3, -⟩ := B i hi
  have val : fI (fun r (v : Int32) => if decide (F r = rho F op i) then (if sp w s r < v then sp w s r else v) else v) (nS w s) (sp w s (rho F op i)) = sp w s (op i) := by
    obtain ⟨x, y, z⟩ := mnF (p := fun r => decide (F r = rho F op i)) (f := sp w s) (v0 := sp w s (rho F op i)) (nS w s)
    have low : ∀ o, o < nS w s → F o = rho F op i → sp w s (op i) ≤ sp w s o := fun o ho e => by
      have := (A o ho rfl).2.2.2.1
      have ge : g o = i := by
        have := r2 o ho
        have e2 : rho F op (g o) = rho F op i := by rw [← this.2, e]
        rw [← (r1 (g o) this.1).2.1, e2, a2]
      rwa [ge] at this
    refine Int32.le_antisymm (z (op i) b1 (decide_eq_true rfl)) ?_
    rcases x with x | ⟨o, o1, o2, o3⟩
    · rw [x]; exact low _ a1 a3
    · rw [o3]; exact low o o1 (of_decide_eq_true o2)
  unfold f_Mo_least f_Mo_least_l10
  rw [M_start (h := m) hs (show rho F op i < 40 by omega) rfl rfl, hw]
  simp only [Option.bind_some]
  rw [← val]
  refine loop_for (nS w s) (fun r (v : Int32) => if decide (F r = rho F op i) then (if sp w s r < v then sp w s r else v) else v) (sp w s (rho F op i)) _ (fun r x hr => ?_) ?_
  · show f_Mo_least_b10 0 m (nI s) (nI (rho F op i)) x (nI r) = _
    have f1 := W.1.1 r hr
    unfold f_Mo_least_b10
    rw [if_pos (many_ix hs rfl).1, (many_ix hs rfl).2, Nat.zero_add, Nat.zero_add, hw, (R s hs).1, if_neg (ngt hr hN), if_pos (inb_nI (show r < 40 by omega) (by decide)), ix_nI (by omega), V r hr, M_start (h := m) hs (show r < 40 by omega) rfl rfl, hw, nI_1]
    simp only [Option.bind_some, M_less, decide_eq_true_eq]
    by_cases z : F r = rho F op i
    · rw [if_pos (by rw [z]), if_pos z]
    · rw [if_neg (fun e => z ((nI_eq (by omega) (by omega)).mp e)), if_neg z]
  · unfold f_Mo_least_b10
    rw [if_pos (many_ix hs rfl).1, (many_ix hs rfl).2, Nat.zero_add, hw, (R s hs).1, if_pos (nle _)]
    rfl
set_option maxHeartbeats 400000 in
theorem M_greatest (hw : m.1 1 = w) (R : RowsOk w) (hs : s < 2) (W : FW w s (nS w s) F) (V : FV m F (nS w s)) (O : OC h w s F (fun _ => true) np op re ct g) {i : Nat} (hi : i < np) : f_Mo_greatest 0 m (nI s) (nI (rho F op i)) = some (re i) := by
  have hN := (R s hs).2.1
  obtain ⟨r1, r2⟩ := OC_rho R hs W O
  obtain ⟨a1, a2, a3, a4, a5⟩ := r1 i hi
  obtain ⟨P, H, L, A, B, C, E⟩ := O
  obtain ⟨b1, b2, b3, ⟨ob, c1, c2, c3, c4⟩, -⟩ := B i hi
  have val : fI (fun r (v : Int32) => if decide (F r = rho F op i) then (if v < ep w s r then ep w s r else v) else v) (nS w s) (ep w s (rho F op i)) = re i := by
    obtain ⟨x, y, z⟩ := mxF (p := fun r => decide (F r = rho F op i)) (f := ep w s) (v0 := ep w s (rho F op i)) (nS w s)
    have low : ∀ o, o < nS w s → F o = rho F op i → ep w s o ≤ re i := fun o ho e => by
      have := (A o ho rfl).2.2.2.2.1
      have ge : g o = i := by
        have := r2 o ho
        have e2 : rho F op (g o) = rho F op i := by rw [← this.2, e]
        rw [← (r1 (g o) this.1).2.1, e2, a2]
      rwa [ge] at this
    refine Int32.le_antisymm ?_ (by rw [c4]; exact z ob c1 (decide_eq_true (by rw [(r2 ob c1).2, c3])))
    rcases x with x | ⟨o, o1, o2, o3⟩
    · rw [x]; exact low _ a1 a3
    · rw [o3]; exact low o o1 (of_decide_eq_true o2)
  unfold f_Mo_greatest f_Mo_greatest_l10
  rw [M_end (h := m) hs (show rho F op i < 40 by omega) rfl rfl, hw]
  simp only [Option.bind_some]
  rw [← val]
  refine loop_for (nS w s) (fun r (v : Int32) => if decide (F r = rho F op i) then (if v < ep w s r then ep w s r else v) else v) (ep w s (rho F op i)) _ (fun r x hr => ?_) ?_
  · show f_Mo_greatest_b10 0 m (nI s) (nI (rho F op i)) x (nI r) = _
    have f1 := W.1.1 r hr
    unfold f_Mo_greatest_b10
    rw [if_pos (many_ix hs rfl).1, (many_ix hs rfl).2, Nat.zero_add, Nat.zero_add, hw, (R s hs).1, if_neg (ngt hr hN), if_pos (inb_nI (show r < 40 by omega) (by decide)), ix_nI (by omega), V r hr, M_end (h := m) hs (show r < 40 by omega) rfl rfl, hw, nI_1]
    simp only [Option.bind_some, M_more, decide_eq_true_eq]
    by_cases z : F r = rho F op i
    · rw [if_pos (by rw [z]), if_pos z]
    · rw [if_neg (fun e => z ((nI_eq (by omega) (by omega)).mp e)), if_neg z]
  · unfold f_Mo_greatest_b10
    rw [if_pos (many_ix hs rfl).1, (many_ix hs rfl).2, Nat.zero_add, hw, (R s hs).1, if_pos (nle _)]
    rfl
set_option maxHeartbeats 400000 in
theorem M_ahead (hw : m.1 1 = w) (R : RowsOk w) (hs : s < 2) (W : FW w s (nS w s) F) (V : FV m F (nS w s)) (O : OC h w s F (fun _ => true) np op re ct g) {i j : Nat} (hi : i < np) (hj : j < np) (hij : j ≠ i) : f_Mo_comesAhead 0 m (nI s) (nI (rho F op j)) (nI (rho F op i)) = some (if j < i then 1 else 0) := by
  have hN := (R s hs).2.1
  obtain ⟨r1, -⟩ := OC_rho R hs W O
  obtain ⟨a1, -, -, a4, a5⟩ := r1 i hi
  obtain ⟨b1, -, -, b4, b5⟩ := r1 j hj
  have C := O.2.2.2.2.2.1
  have lt : j < i ↔ lx w s (op j) (op i) := by
    constructor
    · exact fun z => C j i z hi
    · intro z
      rcases Nat.lt_trichotomy j i with y | y | y
      · exact y
      · exact absurd y hij
      · exact absurd (C i j y hj) (fun x => lx_irr x z)
  unfold f_Mo_comesAhead
  rw [M_least hw R hs W V O hi, M_least hw R hs W V O hj, M_of (h := m) hs (show rho F op j < 40 by omega) (k := 1) (v3 := 1) (by omega) rfl rfl rfl, M_of (h := m) hs (show rho F op i < 40 by omega) (k := 1) (v3 := 1) (by omega) rfl rfl rfl, M_of (h := m) hs (show rho F op j < 40 by omega) (k := 4) (v3 := 4) (by omega) rfl rfl rfl, M_of (h := m) hs (show rho F op i < 40 by omega) (k := 4) (v3 := 4) (by omega) rfl rfl rfl, hw, a4, a5, b4, b5]
  simp only [Option.bind_some]
  clear a4 a5 b4 b5
  by_cases x : fld w s (op j) 1 = fld w s (op i) 1
  · rw [if_pos x]
    by_cases y : sp w s (op j) = sp w s (op i)
    · rw [if_pos y]
      by_cases z : fld w s (op i) 4 ≤ fld w s (op j) 4
      · rw [if_pos z, if_neg (fun u => ?_)]
        rcases lt.mp u with v | ⟨-, v | ⟨-, v⟩⟩
        · rw [x] at v; exact Int32.lt_irrefl v
        · rw [y] at v; exact Int32.lt_irrefl v
        · exact absurd z (Int32.not_le.mpr v)
      · rw [if_neg z, if_pos (lt.mpr (Or.inr ⟨x, Or.inr ⟨y, Int32.not_le.mp z⟩⟩))]
    · rw [if_neg y]
      by_cases z : sp w s (op i) ≤ sp w s (op j)
      · rw [if_pos z, if_neg (fun u => ?_)]
        rcases lt.mp u with v | ⟨-, v | ⟨v, -⟩⟩
        · rw [x] at v; exact Int32.lt_irrefl v
        · exact absurd z (Int32.not_le.mpr v)
        · exact y v
      · rw [if_neg z, if_pos (lt.mpr (Or.inr ⟨x, Or.inl (Int32.not_le.mp z)⟩))]
  · rw [if_neg x]
    by_cases z : fld w s (op i) 1 ≤ fld w s (op j) 1
    · rw [if_pos z, if_neg (fun u => ?_)]
      rcases lt.mp u with v | ⟨v, -⟩
      · exact absurd z (Int32.not_le.mpr v)
      · exact x v
    · rw [if_neg z, if_pos (lt.mpr (Or.inl (Int32.not_le.mp z)))]
set_option maxHeartbeats 400000 in
theorem cnI (p : Nat → Bool) : ∀ n, fI (fun r (v : Int32) => if p r then v + 1 else v + 0) n 0 = nI (cN p n)
  | 0 => rfl
  | n + 1 => by
    simp only [fI, cN]
    rw [cnI p n]
    by_cases z : p n = true
    · rw [if_pos z, if_pos z, nI_1]
    · rw [if_neg z, if_neg z, Int32.add_zero]; rfl
set_option maxHeartbeats 400000 in
theorem OC_root (R : RowsOk w) (hs : s < 2) (W : FW w s (nS w s) F) (O : OC h w s F (fun _ => true) np op re ct g) {a : Nat} (ha : a < nS w s) : F a = a ↔ ∃ i, i < np ∧ a = rho F op i := by
  obtain ⟨r1, r2⟩ := OC_rho R hs W O
  constructor
  · intro e
    exact ⟨g a, (r2 a ha).1, by rw [← (r2 a ha).2]; exact e.symm⟩
  · rintro ⟨i, hi, rfl⟩
    exact (r1 i hi).2.2.1
set_option maxHeartbeats 400000 in
theorem OC_many (R : RowsOk w) (hs : s < 2) (W : FW w s (nS w s) F) (O : OC h w s F (fun _ => true) np op re ct g) : cN (fun a => decide (F a = a)) (nS w s) = np := by
  obtain ⟨r1, r2⟩ := OC_rho R hs W O
  rw [← cN_inj (r := rho F op) (N := nS w s) np (fun i hi => (r1 i hi).1) (fun i j hi hj e => by rw [← (r1 i hi).2.1, e, (r1 j hj).2.1])]
  refine cN_congr _ (fun a ha => ?_)
  have := OC_root R hs W O ha
  by_cases z : F a = a
  · obtain ⟨i, hi, e⟩ := this.mp z
    rw [decide_eq_true z, (anyN_iff np).mpr ⟨i, hi, decide_eq_true e⟩]
  · rw [decide_eq_false z]
    refine (Bool.eq_false_iff.mpr (fun y => ?_)).symm
    obtain ⟨i, hi, e⟩ := (anyN_iff np).mp y
    exact z (this.mpr ⟨i, hi, of_decide_eq_true e⟩)
set_option maxHeartbeats 400000 in
theorem OC_rank (R : RowsOk w) (hs : s < 2) (W : FW w s (nS w s) F) (O : OC h w s F (fun _ => true) np op re ct g) {i : Nat} (hi : i < np) : cN (fun b => decide (F b = b) && (decide (b ≠ rho F op i) && decide (g b < i))) (nS w s) = i := by
  obtain ⟨r1, r2⟩ := OC_rho R hs W O
  have e := cN_inj (r := rho F op) (N := nS w s) i (fun j hj => (r1 j (by omega)).1) (fun a b ha hb e => by rw [← (r1 a (by omega)).2.1, e, (r1 b (by omega)).2.1])
  refine Eq.trans (cN_congr _ (fun b hb => ?_)) e
  have rb := OC_root R hs W O hb
  by_cases z : anyN (fun j => decide (b = rho F op j)) i = true
  · rw [z]
    obtain ⟨j, hj, e⟩ := (anyN_iff i).mp z
    have e := of_decide_eq_true e
    have gj := (r1 j (by omega)).2.1
    rw [← e] at gj
    have ne : b ≠ rho F op i := fun y => by rw [y, (r1 i hi).2.1] at gj; omega
    rw [decide_eq_true (rb.mpr ⟨j, by omega, e⟩), decide_eq_true ne, gj, decide_eq_true hj]; rfl
  · rw [Bool.eq_false_iff.mpr z]
    refine Bool.eq_false_iff.mpr (fun y => z ?_)
    simp only [Bool.and_eq_true, decide_eq_true_eq] at y
    obtain ⟨j, hj, e⟩ := rb.mp y.1
    have gj := (r1 j hj).2.1
    rw [← e] at gj
    exact (anyN_iff i).mpr ⟨j, by omega, decide_eq_true e⟩
end OR
