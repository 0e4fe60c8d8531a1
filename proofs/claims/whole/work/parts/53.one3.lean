/-! one: a row joins a span or begins one -/
set_option maxHeartbeats 400000 in
theorem cel_0 (a b c d e : Int32) : cel a b c d e 0 = a := rfl
set_option maxHeartbeats 400000 in
theorem cel_1 (a b c d e : Int32) : cel a b c d e 1 = b := rfl
set_option maxHeartbeats 400000 in
theorem cel_2 (a b c d e : Int32) : cel a b c d e 2 = c := rfl
set_option maxHeartbeats 400000 in
theorem cel_3 (a b c d e : Int32) : cel a b c d e 3 = d := rfl
set_option maxHeartbeats 400000 in
theorem cel_4 (a b c d e : Int32) : cel a b c d e 4 = e := rfl
section OJ
variable {h : HP} {w : Nat → Int32} {s : Nat} {F : Nat → Nat} {D : Nat → Bool} {np : Nat} {op : Nat → Nat} {re : Nat → Int32} {ct g : Nat → Nat} {o : Nat}
set_option maxHeartbeats 400000 in
theorem OC_widen {h' : HP} (R : RowsOk w) (hs : s < 2) (hF : RF w s (nS w s) F) (O : OC h w s F D np op re ct g) (ho : o < nS w s) (hD : D o = false) (hord : ∀ o', o' < nS w s → D o' = true → fld w s o' 1 = fld w s o 1 → sp w s o' ≤ sp w s o) {p : Nat} (hp : p < np) (hK : fld w s (op p) 1 = fld w s o 1) (hU : fld w s (op p) 4 = fld w s o 4) (hre : sp w s o ≤ re p) (P' : PW h' np (fun k j => if k = p then (if j = 2 then ((if h.1 36 p < ep w s o then ep w s o else h.1 36 p) >>> (1 &&& 31)) else if j = 4 then ocF w s op re ct p 4 + 1 else ocF w s op re ct k j) else ocF w s op re ct k j)) (H' : ∀ k, h'.1 36 k = if k = p then (if h.1 36 p < ep w s o then ep w s o else h.1 36 p) else h.1 36 k) : OC h' w s F (fun x => D x || decide (x = o)) np op (fun k => if k = p then (if re p < ep w s o then ep w s o else re p) else re k) (fun k => if k = p then ct p + 1 else ct k) (fun x => if x = o then p else g x) := by
  obtain ⟨P, H, L, A, B, C, E⟩ := O
  rw [H p hp] at P' H'
  have hne : ∀ x, D x = true → x ≠ o := fun x hx e => by rw [e, hD] at hx; cases hx
  have D'o : ∀ x, (D x || decide (x = o)) = true ↔ D x = true ∨ x = o := fun x => by simp only [Bool.or_eq_true, decide_eq_true_eq]
  have cnD := cN_ins (p := fun x => D x || decide (x = o)) (r := D) (x := o) (nS w s) (fun i hi => by simp [hi]) (by simp) hD ho
  have mx : re p ≤ (if re p < ep w s o then ep w s o else re p) ∧ ep w s o ≤ (if re p < ep w s o then ep w s o else re p) := by
    by_cases z : re p < ep w s o
    · rw [if_pos z]; exact ⟨Int32.le_of_lt z, Int32.le_refl _⟩
    · rw [if_neg z]; exact ⟨Int32.le_refl _, Int32.not_lt.mp z⟩
  obtain ⟨bp1, bp2, bp3, ⟨ob, ob1, ob2, ob3, ob4⟩, bp5⟩ := B p hp
  have aob := A ob ob1 ob2
  rw [ob3] at aob
  refine ⟨PW.cg P' (fun k j hk hj => ?_), fun i hi => ?_, ?_, fun x hx hx2 => ?_, fun i hi => ?_, C, fun i j hij hj e1 e2 => ?_⟩
  · by_cases z : k = p
    · rw [if_pos z]
      unfold ocF
      dsimp only
      rw [if_pos z, if_pos z, z]
      rcases (show j = 0 ∨ j = 1 ∨ j = 2 ∨ j = 3 ∨ j = 4 by omega) with y | y | y | y | y <;> subst y
      · rw [if_neg (by decide), if_neg (by decide), cel_0, cel_0]
      · rw [if_neg (by decide), if_neg (by decide), cel_1, cel_1]
      · rw [if_pos rfl, cel_2]
      · rw [if_neg (by decide), if_neg (by decide), cel_3, cel_3]
      · rw [if_neg (by decide), if_pos rfl, cel_4, cel_4, nI_1]
    · rw [if_neg z]
      unfold ocF
      dsimp only
      rw [if_neg z, if_neg z]
  · show h'.1 36 i = if i = p then (if re p < ep w s o then ep w s o else re p) else re i
    rw [H' i]
    by_cases z : i = p
    · rw [if_pos z, if_pos z]
    · rw [if_neg z, if_neg z]; exact H i hi
  · rw [cnD]; omega
  · by_cases z : x = o
    · rw [z]
      simp only [if_pos]
      refine ⟨hp, hK.symm, hU.symm, hord _ bp1 bp2 hK, mx.2, ?_⟩
      rw [← aob.2.2.2.2.2]
      refine (hF ob o ob1 ho (rl_iff.mpr ⟨?_, ?_, ?_, ?_⟩)).symm
      · rw [aob.2.1, hK]
      · rw [aob.2.2.1, hU]
      · exact Int32.le_trans (hord ob ob1 ob2 (by rw [aob.2.1, hK])) (Int32.le_of_lt (sp_lt_ep R hs ho))
      · rw [← ob4]; exact hre
    · have dx : D x = true := by
        rcases (D'o x).mp hx2 with y | y
        · exact y
        · exact absurd y z
      have ax := A x hx dx
      simp only [if_neg z]
      refine ⟨ax.1, ax.2.1, ax.2.2.1, ax.2.2.2.1, ?_, ax.2.2.2.2.2⟩
      by_cases y : g x = p
      · rw [if_pos y]; rw [y] at ax; exact Int32.le_trans ax.2.2.2.2.1 mx.1
      · rw [if_neg y]; exact ax.2.2.2.2.1
  · obtain ⟨b1, b2, b3, ⟨o', c1, c2, c3, c4⟩, b5⟩ := B i hi
    refine ⟨b1, (D'o _).mpr (Or.inl b2), ?_, ?_, ?_⟩
    · show (if op i = o then p else g (op i)) = i
      rw [if_neg (hne _ b2)]; exact b3
    · by_cases z : i = p
      · simp only [if_pos z]
        by_cases y : re p < ep w s o
        · exact ⟨o, ho, (D'o o).mpr (Or.inr rfl), by rw [if_pos rfl, z], by rw [if_pos y]⟩
        · exact ⟨o', c1, (D'o o').mpr (Or.inl c2), by rw [if_neg (hne _ c2)]; exact c3, by rw [if_neg y, ← z]; exact c4⟩
      · simp only [if_neg z]
        exact ⟨o', c1, (D'o o').mpr (Or.inl c2), by rw [if_neg (hne _ c2)]; exact c3, c4⟩
    · show (if i = p then ct p + 1 else ct i) = cN (fun x => (D x || decide (x = o)) && decide ((if x = o then p else g x) = i)) (nS w s)
      by_cases z : i = p
      · rw [if_pos z, cN_ins (p := fun x => (D x || decide (x = o)) && decide ((if x = o then p else g x) = i)) (r := fun x => D x && decide (g x = p)) (x := o) (nS w s) (fun x hx => by simp only [decide_eq_false hx, Bool.or_false, if_neg hx, z]) (by simp [z]) (by simp [hD]) ho, bp5]
      · rw [if_neg z, b5]
        refine cN_congr _ (fun x _ => ?_)
        show (D x && decide (g x = i)) = ((D x || decide (x = o)) && decide ((if x = o then p else g x) = i))
        by_cases y : x = o
        · rw [if_pos y, decide_eq_false (show ¬ p = i from fun e => z e.symm), Bool.and_false, y, hD, Bool.false_and]
        · rw [if_neg y, decide_eq_false y, Bool.or_false]
  · show (if i = p then (if re p < ep w s o then ep w s o else re p) else re i) < sp w s (op j)
    by_cases z : i = p
    · exfalso
      have d := E i j hij hj e1 e2
      obtain ⟨b1, b2, -⟩ := B j hj
      rw [z] at d e1
      have le := hord (op j) b1 b2 (by rw [← e1]; exact hK)
      exact absurd (Int32.lt_of_lt_of_le d (Int32.le_trans le hre)) Int32.lt_irrefl
    · rw [if_neg z]; exact E i j hij hj e1 e2
set_option maxHeartbeats 400000 in
theorem OC_put {h' : HP} (R : RowsOk w) (hs : s < 2) (O : OC h w s F D np op re ct g) (ho : o < nS w s) (hD : D o = false) (hord : ∀ o', o' < nS w s → D o' = true → fld w s o' 1 < fld w s o 1 ∨ (fld w s o' 1 = fld w s o 1 ∧ (sp w s o' < sp w s o ∨ (sp w s o' = sp w s o ∧ fld w s o' 4 ≤ fld w s o 4)))) (hno : ∀ i, i < np → fld w s (op i) 1 = fld w s o 1 → fld w s (op i) 4 = fld w s o 4 → re i < sp w s o) (P' : PW h' (np + 1) (fun k j => if k = np then cel (fld w s o 1) (sp w s o >>> (1 &&& 31)) (ep w s o >>> (1 &&& 31)) (fld w s o 4) 1 j else ocF w s op re ct k j)) (H' : ∀ k, h'.1 36 k = if k = np then ep w s o else h.1 36 k) : OC h' w s F (fun x => D x || decide (x = o)) (np + 1) (fun k => if k = np then o else op k) (fun k => if k = np then ep w s o else re k) (fun k => if k = np then 1 else ct k) (fun x => if x = o then np else g x) := by
  obtain ⟨P, H, L, A, B, C, E⟩ := O
  have hne : ∀ x, D x = true → x ≠ o := fun x hx e => by rw [e, hD] at hx; cases hx
  have D'o : ∀ x, (D x || decide (x = o)) = true ↔ D x = true ∨ x = o := fun x => by simp only [Bool.or_eq_true, decide_eq_true_eq]
  have cnD := cN_ins (p := fun x => D x || decide (x = o)) (r := D) (x := o) (nS w s) (fun i hi => by simp [hi]) (by simp) hD ho
  refine ⟨PW.cg P' (fun k j hk hj => ?_), fun i hi => ?_, by omega, fun x hx hx2 => ?_, fun i hi => ?_, fun i j hij hj => ?_, fun i j hij hj => ?_⟩
  · unfold ocF
    dsimp only
    by_cases z : k = np
    · rw [if_pos z, if_pos z, if_pos z, if_pos z]; rfl
    · rw [if_neg z, if_neg z, if_neg z, if_neg z]
  · show h'.1 36 i = if i = np then ep w s o else re i
    rw [H' i]
    by_cases z : i = np
    · rw [if_pos z, if_pos z]
    · rw [if_neg z, if_neg z]; exact H i (by omega)
  · by_cases z : x = o
    · dsimp only
      rw [if_pos z, if_pos rfl, if_pos rfl, z]
      exact ⟨by omega, rfl, rfl, Int32.le_refl _, Int32.le_refl _, rfl⟩
    · have dx : D x = true := by
        rcases (D'o x).mp hx2 with y | y
        · exact y
        · exact absurd y z
      have ax := A x hx dx
      simp only [if_neg z, if_neg (show ¬ g x = np by have := ax.1; omega)]
      exact ⟨by omega, ax.2⟩
  · by_cases z : i = np
    · dsimp only
      rw [if_pos z, if_pos z, if_pos z]
      refine ⟨ho, (D'o o).mpr (Or.inr rfl), ?_, ⟨o, ho, (D'o o).mpr (Or.inr rfl), ?_, rfl⟩, ?_⟩
      · rw [if_pos rfl]; exact z.symm
      · rw [if_pos rfl]; exact z.symm
      · have c0 : cN (fun x => D x && decide (g x = np)) (nS w s) = 0 := by
          rcases Nat.eq_zero_or_pos (cN (fun x => D x && decide (g x = np)) (nS w s)) with y | y
          · exact y
          · obtain ⟨x, hx, px, -⟩ := cN_sur (c := 0) y
            simp only [Bool.and_eq_true, decide_eq_true_eq] at px
            have := (A x hx px.1).1
            omega
        rw [cN_ins (p := fun x => (D x || decide (x = o)) && decide ((if x = o then np else g x) = i)) (r := fun x => D x && decide (g x = np)) (x := o) (nS w s) (fun x hx => by simp only [decide_eq_false hx, Bool.or_false, if_neg hx, z]) (by simp [z]) (by simp [hD]) ho, c0]
    · obtain ⟨b1, b2, b3, ⟨o', c1, c2, c3, c4⟩, b5⟩ := B i (by omega)
      simp only [if_neg z]
      refine ⟨b1, (D'o _).mpr (Or.inl b2), by rw [if_neg (hne _ b2)]; exact b3, ⟨o', c1, (D'o o').mpr (Or.inl c2), by rw [if_neg (hne _ c2)]; exact c3, c4⟩, ?_⟩
      rw [b5]
      refine cN_congr _ (fun x _ => ?_)
      show (D x && decide (g x = i)) = ((D x || decide (x = o)) && decide ((if x = o then np else g x) = i))
      by_cases y : x = o
      · rw [if_pos y, decide_eq_false (show ¬ np = i from fun e => z e.symm), Bool.and_false, y, hD, Bool.false_and]
      · rw [if_neg y, decide_eq_false y, Bool.or_false]
  · have zi : ¬ i = np := by omega
    simp only [if_neg zi]
    by_cases z : j = np
    · rw [if_pos z]
      obtain ⟨b1, b2, b3, ⟨o', c1, c2, c3, c4⟩, b5⟩ := B i (by omega)
      rcases hord (op i) b1 b2 with y | ⟨y, x⟩
      · exact Or.inl y
      · refine Or.inr ⟨y, ?_⟩
        rcases x with x | ⟨x, u⟩
        · exact Or.inl x
        · refine Or.inr ⟨x, ?_⟩
          rcases Int32.lt_or_eq_of_le u with v | v
          · exact v
          · exfalso
            have r1 := hno i (by omega) y v
            have a1 := (A (op i) b1 b2).2.2.2.2.1
            rw [b3] at a1
            have := Int32.lt_of_lt_of_le (sp_lt_ep R hs b1) a1
            rw [x] at this
            exact absurd (Int32.lt_trans this r1) Int32.lt_irrefl
    · rw [if_neg z]; exact C i j hij (by omega)
  · have zi : ¬ i = np := by omega
    simp only [if_neg zi]
    by_cases z : j = np
    · simp only [if_pos z]
      exact fun e1 e2 => hno i (by omega) e1 e2
    · simp only [if_neg z]; exact E i j hij (by omega)
set_option maxHeartbeats 400000 in
theorem X_joinSpan (V : SV h 1 w) (R : RowsOk w) (hs : s < 2) (hF : RF w s (nS w s) F) (O : OC h w s F D np op re ct g) (ho : o < nS w s) (hD : D o = false) (hord : ∀ o', o' < nS w s → D o' = true → fld w s o' 1 < fld w s o 1 ∨ (fld w s o' 1 = fld w s o 1 ∧ (sp w s o' < sp w s o ∨ (sp w s o' = sp w s o ∧ fld w s o' 4 ≤ fld w s o 4)))) {f0 : Nat} (hf : f0 ≤ np) (lo : ∀ i, i < f0 → fld w s (op i) 1 < fld w s o 1) (hi : ∀ i, f0 ≤ i → i < np → fld w s (op i) 1 = fld w s o 1) : ∃ (h' : HP) (np' : Nat) (op' : Nat → Nat) (re' : Nat → Int32) (ct' g' : Nat → Nat), f_TJ_joinSpan 0 h (rc 1 s) (nI o) (nI f0) = some h' ∧ OC h' w s F (fun x => D x || decide (x = o)) np' op' re' ct' g' ∧ fr [34, 35, 36] h h' ∧ h'.2 = h.2 ∧ f0 ≤ np' ∧ (∀ i, i < f0 → fld w s (op' i) 1 < fld w s o 1) ∧ (∀ i, f0 ≤ i → i < np' → fld w s (op' i) 1 = fld w s o 1) := by
  have hN := (R s hs).2.1
  have hle := cN_le D (nS w s)
  have Vr := V.rv hs
  have P := O.1
  have Hr := O.2.1
  have hnp := O.2.2.1
  -- one step of the search
  have st : ∀ i, f0 ≤ i → i < np → f_TJ_joinSpan_b10 0 h (rc 1 s) (nI o) (fld w s o 4) (nI i) = if fld w s (op i) 4 = fld w s o 4 ∧ sp w s o ≤ re i then (f_Pa_widen 34 h (nI i) (ep w s o)).map Sum.inr else some (Sum.inl (nI (i + 1))) := by
    intro i h1 h2
    unfold f_TJ_joinSpan_b10
    rw [Nat.zero_add, P.2.1, if_neg (nI_ge h2 (by omega)), X_pcell P h2 (show 3 < 5 by omega) (v := 3) rfl, X_reach P h2, Hr i h2, X_start Vr ho, X_end Vr ho, nI_1]
    simp only [Option.bind_some]
    rw [show ocF w s op re ct i 3 = fld w s (op i) 4 from rfl]
    by_cases a : fld w s (op i) 4 = fld w s o 4
    · rw [if_pos a]
      by_cases b : re i < sp w s o
      · rw [if_pos b, if_neg (fun z => absurd z.2 (Int32.not_le.mpr b))]
      · rw [if_neg b, if_pos ⟨a, Int32.not_lt.mp b⟩]
        cases f_Pa_widen 34 h (nI i) (ep w s o) <;> rfl
    · rw [if_neg a, if_neg (fun z => a z.1)]
  unfold f_TJ_joinSpan
  rw [X_val Vr ho]
  simp only [Option.bind_some]
  unfold f_TJ_joinSpan_l10
  have ord1 : ∀ o', o' < nS w s → D o' = true → fld w s o' 1 = fld w s o 1 → sp w s o' ≤ sp w s o := fun o' h1 h2 h3 => by
    rcases hord o' h1 h2 with z | ⟨-, z | ⟨z, -⟩⟩
    · rw [h3] at z; exact absurd z Int32.lt_irrefl
    · exact Int32.le_of_lt z
    · rw [z]; exact Int32.le_refl _
  cases hf1 : fstN (fun t => decide (fld w s (op (f0 + t)) 4 = fld w s o 4) && decide (sp w s o ≤ re (f0 + t))) (np - f0) with
  | some t =>
    obtain ⟨t1, t2, t3⟩ := fstN_some hf1
    simp only [Bool.and_eq_true, decide_eq_true_eq] at t2
    have hp : f0 + t < np := by omega
    obtain ⟨h', e', P', H', Fr, E2⟩ := X_widen P hp (ep w s o)
    refine ⟨h', np, op, _, _, _, ?_, OC_widen R hs hF O ho hD ord1 hp (hi _ (by omega) hp) t2.1 t2.2 P' H', Fr.mono (by simp <;> omega), E2, hf, lo, hi⟩
    refine loop_up (fun u => nI (f0 + u)) t (fun u hu => ?_) ?_
    · show f_TJ_joinSpan_b10 0 h (rc 1 s) (nI o) (fld w s o 4) (nI (f0 + u)) = _
      have := t3 u hu
      simp only [Bool.and_eq_false_iff, decide_eq_false_iff_not] at this
      rw [st _ (by omega) (by omega), if_neg (fun z => by rcases this with y | y; exact y z.1; exact y z.2)]
      rfl
    · show f_TJ_joinSpan_b10 0 h (rc 1 s) (nI o) (fld w s o 4) (nI (f0 + t)) = _
      rw [st _ (by omega) hp, if_pos t2, e']
      rfl
  | none =>
    have no := fstN_no hf1
    obtain ⟨h1, e1, P1, F1⟩ := X_pput P (show np < 160 by omega) (fld w s o 1) (sp w s o >>> (1 &&& 31)) (ep w s o >>> (1 &&& 31)) (fld w s o 4) 1
    have V1 := (V.fr F1 (by decide)).rv hs
    have P2 : PW (upI h1 36 np (ep w s o)) (np + 1) (fun k j => if k = np then cel (fld w s o 1) (sp w s o >>> (1 &&& 31)) (ep w s o >>> (1 &&& 31)) (fld w s o 4) 1 j else ocF w s op re ct k j) := PW.fr P1 (fr.up (L := [36]) _ _ (by decide)) (by decide) (by decide)
    have nof : ∀ i, i < np → fld w s (op i) 1 = fld w s o 1 → fld w s (op i) 4 = fld w s o 4 → re i < sp w s o := by
      intro i h1 h2 h3
      have ge : f0 ≤ i := by
        rcases Nat.lt_or_ge i f0 with z | z
        · have := lo i z; rw [h2] at this; exact absurd this Int32.lt_irrefl
        · exact z
      have := no (i - f0) (by omega)
      rw [show f0 + (i - f0) = i by omega, decide_eq_true h3, Bool.true_and] at this
      exact Int32.not_le.mp (of_decide_eq_false this)
    refine ⟨upI h1 36 np (ep w s o), np + 1, _, _, _, _, ?_, OC_put R hs O ho hD hord nof P2 (fun k => ?_), (F1.mono (by simp <;> omega)).tr (fr.up _ _ (by decide)), (show (upI h1 36 np (ep w s o)).2 = h.2 from (X_pput2 e1 : h1.2 = h.2)), by omega, fun i h2 => ?_, fun i h2 h3 => ?_⟩
    · have key := loop_up (body := fun x : Int32 => f_TJ_joinSpan_b10 0 h (rc 1 s) (nI o) (fld w s o 4) x) (t := upI h1 36 np (ep w s o)) (fun u => nI (f0 + u)) (np - f0) (fun u hu => ?_) ?_
      · exact key
      · show f_TJ_joinSpan_b10 0 h (rc 1 s) (nI o) (fld w s o 4) (nI (f0 + u)) = _
        have := no u hu
        simp only [Bool.and_eq_false_iff, decide_eq_false_iff_not] at this
        rw [st _ (by omega) (by omega), if_neg (fun z => by rcases this with y | y; exact y z.1; exact y z.2)]
        rfl
      · show f_TJ_joinSpan_b10 0 h (rc 1 s) (nI o) (fld w s o 4) (nI (f0 + (np - f0))) = _
        rw [show f0 + (np - f0) = np by omega]
        unfold f_TJ_joinSpan_b10
        rw [Nat.zero_add, P.2.1, if_pos (nle _), X_key Vr ho, X_start Vr ho, X_end Vr ho]
        simp only [Option.bind_some, X_timeOf]
        rw [e1]
        simp only [Option.bind_some]
        rw [X_end V1 ho]
        simp only [Option.bind_some]
        rw [X_setReach P1]
        rfl
    · rw [upI_s]
      by_cases z : k = np
      · rw [if_pos z, if_pos z]
      · rw [if_neg z, if_neg z, F1 36 (by decide)]
    · show fld w s (if i = np then o else op i) 1 < fld w s o 1
      rw [if_neg (by omega)]; exact lo i h2
    · show fld w s (if i = np then o else op i) 1 = fld w s o 1
      by_cases z : i = np
      · rw [if_pos z]
      · rw [if_neg z]; exact hi i h2 (by omega)
end OJ
