/-! a row's partners gathered: the class's Mates against the reference's loops over all rows -/
set_option maxHeartbeats 400000 in
theorem loop_inv {S T : Type} {body : S → Option (S ⊕ T)} (I : Nat → S → Prop) (n : Nat) (Q : T → Prop) (hs : ∀ i s, i < n → I i s → ∃ s', body s = some (.inl s') ∧ I (i + 1) s') (he : ∀ s, I n s → ∃ t, body s = some (.inr t) ∧ Q t) (s0 : S) (h0 : I 0 s0) : ∃ t, loop body s0 = some t ∧ Q t := by
  have : ∀ k, k ≤ n → ∃ s, loop body s0 = loop body s ∧ I k s := by
    intro k
    induction k with
    | zero => intro _; exact ⟨s0, rfl, h0⟩
    | succ k ih =>
      intro hk
      obtain ⟨s, e, hi⟩ := ih (by omega)
      obtain ⟨s', e', hi'⟩ := hs k s (by omega) hi
      exact ⟨s', by rw [e, loop_inl e'], hi'⟩
  obtain ⟨s, e, hi⟩ := this n (Nat.le_refl n)
  obtain ⟨t, et, q⟩ := he s hi
  exact ⟨t, by rw [e, loop_inr et], q⟩
set_option maxHeartbeats 400000 in
theorem fI_sim {A B : Type} (R : A → B → Prop) (p : Nat → Bool) (st' : Nat → A → A) (st : Nat → B → B) : ∀ n, (∀ k, k < n → p k = true → ∀ x y, R x y → R (st' (cN p k) x) (st k y)) → ∀ a b, R a b → R (fI st' (cN p n) a) (fI (fun k y => if p k then st k y else y) n b)
  | 0, _, a, b, h => h
  | n + 1, hs, a, b, h => by
    have ih := fI_sim R p st' st n (fun k hk => hs k (by omega)) a b h
    simp only [cN, fI]
    cases hp : p n with
    | false => simp only [Bool.false_eq_true, if_false, Nat.add_zero]; exact ih
    | true => simp only [if_true]; exact hs n (by omega) hp _ _ ih
set_option maxHeartbeats 400000 in
theorem fI_sim1 {A : Type} (p : Nat → Bool) (st' st : Nat → A → A) (n : Nat) (h : ∀ k, k < n → p k = true → ∀ x, st' (cN p k) x = st k x) (a : A) : fI st' (cN p n) a = fI (fun k y => if p k then st k y else y) n a :=
  fI_sim (fun x y => x = y) p st' st n (fun k hk hp x y e => by rw [e]; exact h k hk hp y) a a rfl
set_option maxHeartbeats 400000 in
theorem cN_lt {p : Nat → Bool} {k : Nat} : ∀ {n : Nat}, k < n → p k = true → cN p k < cN p n
  | 0, h, _ => by omega
  | n + 1, h, hp => by
    simp only [cN]
    rcases (show k < n ∨ k = n by omega) with h1 | rfl
    · have := cN_lt (p := p) h1 hp; omega
    · rw [hp]; simp
set_option maxHeartbeats 400000 in
theorem cN_mono {p : Nat → Bool} {a b : Nat} (h : a ≤ b) : cN p a ≤ cN p b := by
  obtain ⟨k, rfl⟩ : ∃ k, b = a + k := ⟨b - a, by omega⟩
  induction k with
  | zero => exact Nat.le_refl _
  | succ k ih => have := ih (by omega); rw [show a + (k + 1) = a + k + 1 from rfl]; simp only [cN]; omega
/-- cells that have not changed -/
def fr (L : List Nat) (h h' : HP) : Prop := ∀ a, a ∉ L → h'.1 a = h.1 a
set_option maxHeartbeats 400000 in
theorem fr.rf {L : List Nat} {h : HP} : fr L h h := fun _ _ => rfl
set_option maxHeartbeats 400000 in
theorem fr.tr {L : List Nat} {h h' h'' : HP} (x : fr L h h') (y : fr L h' h'') : fr L h h'' := fun a ha => (y a ha).trans (x a ha)
set_option maxHeartbeats 400000 in
theorem fr.mono {L M : List Nat} {h h' : HP} (x : fr L h h') (hm : ∀ a, a ∈ L → a ∈ M) : fr M h h' := fun a ha => x a (fun z => ha (hm a z))
set_option maxHeartbeats 400000 in
theorem fr.up {L : List Nat} {h : HP} {c : Nat} (j : Nat) (v : Int32) (hc : c ∈ L) : fr L h (upI h c j v) := fun a ha => by
  funext b
  exact upI_ne h j b v (fun e => ha (e ▸ hc))
set_option maxHeartbeats 400000 in
theorem RV.cg {h h' : HP} {cc : Nat} {w : Nat → Int32} {s n : Nat} (V : RV h cc w s n) (e : ∀ k, k < 6 → h'.1 (cc + k) = h.1 (cc + k)) : RV h' cc w s n := by
  refine ⟨V.1, ?_, fun r hr => ?_⟩
  · have := e 0 (by omega); rw [show h'.1 cc = h.1 cc from this]; exact V.2.1
  · rw [e 1 (by omega), e 2 (by omega), e 3 (by omega), e 4 (by omega), e 5 (by omega)]; exact V.2.2 r hr
set_option maxHeartbeats 400000 in
theorem SV.cg {h h' : HP} {w : Nat → Int32} (V : SV h 1 w) (e : ∀ a, a < 32 → h'.1 a = h.1 a) : SV h' 1 w := by
  refine ⟨?_, ?_, V.2.2.1.cg (fun k hk => e _ (by omega)), V.2.2.2.cg (fun k hk => e _ (by omega))⟩
  · rw [e 1 (by omega)]; exact V.1
  · rw [e 1 (by omega)]; exact V.2.1
set_option maxHeartbeats 400000 in
theorem SV.fr {L : List Nat} {h h' : HP} {w : Nat → Int32} (V : SV h 1 w) (F : fr L h h') (hL : ∀ a, a ∈ L → 32 ≤ a) : SV h' 1 w := V.cg (fun a ha => F a (fun z => by have := hL a z; omega))
/-- Mates at cell 37: the row's places, its first i candidates' partners -/
def MW (h : HP) (w : Nat → Int32) (s r i : Nat) : Prop := h.1 37 4 = sp w s r ∧ h.1 37 5 = ep w s r ∧ h.1 37 3 = nI (cN (prt w s r) i) ∧ ∀ k, k < i → prt w s r k = true → h.1 38 (cN (prt w s r) k) = nI k ∧ h.1 39 (cN (prt w s r) k) = sp w (1 - s) k ∧ h.1 40 (cN (prt w s r) k) = ep w (1 - s) k
set_option maxHeartbeats 400000 in
theorem MW.fr {L : List Nat} {h h' : HP} {w : Nat → Int32} {s r i : Nat} (M : MW h w s r i) (F : fr L h h') (h1 : 37 ∉ L) (h2 : 38 ∉ L) (h3 : 39 ∉ L) (h4 : 40 ∉ L) : MW h' w s r i := by
  unfold MW
  rw [F 37 h1, F 38 h2, F 39 h3, F 40 h4]
  exact M
set_option maxHeartbeats 400000 in
theorem X_gather {h : HP} {w : Nat → Int32} (V : SV h 1 w) {s r : Nat} (hs : s < 2) (hr : r < nS w s) : ∃ h', f_Ma_gather 37 h 1 (nI s) (nI r) = some h' ∧ MW h' w s r (nS w (1 - s)) ∧ fr [37, 38, 39, 40] h h' := by
  have V1 := V.rv (s := 1 - s) (by omega)
  have hn := V1.1
  have F0 : fr [37, 38, 39, 40] h (upI h 37 4 (sp w s r)) := fr.up _ _ (by decide)
  have Va := V.fr F0 (by decide)
  unfold f_Ma_gather
  rw [X_rowsOf hs rfl, X_rowsOf (s := 1 - s) (by omega) (one_sub hs)]
  simp only [Option.bind_some]
  rw [X_start (V.rv hs) hr]
  simp only [Option.bind_some]
  rw [X_end (Va.rv hs) hr]
  simp only [Option.bind_some]
  unfold f_Ma_gather_l44
  refine loop_inv (fun i (x : HP × Int32) => x.2 = nI i ∧ MW x.1 w s r i ∧ fr [37, 38, 39, 40] h x.1) (nS w (1 - s)) _ ?_ ?_ _ ?_
  · rintro i ⟨hp, v6⟩ hi ⟨e6, M, F⟩
    replace e6 : v6 = nI i := e6
    replace M : MW hp w s r i := M
    replace F : fr [37, 38, 39, 40] h hp := F
    subst e6
    have Vi := V.fr F (by decide)
    have Vi1 := Vi.rv (s := 1 - s) (by omega)
    have hc := cN_le (prt w s r) i
    have hj : inb (nI (cN (prt w s r) i)) 40 := inb_nI (by omega) (by decide)
    unfold f_Ma_gather_b44
    simp only [Vi1.2.1, if_neg (ngt hi hn), if_neg (show ¬ (40 : Int32) ≤ nI i from nI_ge (b := 40) (by omega) (by decide)), X_prt Vi hs hr hi, Option.bind_some]
    cases hp' : prt w s r i with
    | false =>
      refine ⟨(hp, nI (i + 1)), ?_, rfl, ?_, F⟩
      · simp only [Bool.false_eq_true, if_false, if_true, nI_1]
      · refine ⟨M.1, M.2.1, ?_, fun k hk hpk => ?_⟩
        · simp only [cN, hp', Bool.false_eq_true, if_false, Nat.add_zero]; exact M.2.2.1
        · rcases (show k < i ∨ k = i by omega) with h1 | rfl
          · exact M.2.2.2 k h1 hpk
          · rw [hp'] at hpk; cases hpk
    | true =>
      have Fa : fr [37, 38, 39, 40] hp (upI hp 38 (cN (prt w s r) i) (nI i)) := fr.up _ _ (by decide)
      have Fb : fr [37, 38, 39, 40] (upI hp 38 (cN (prt w s r) i) (nI i)) (upI (upI hp 38 (cN (prt w s r) i) (nI i)) 39 (cN (prt w s r) i) (sp w (1 - s) i)) := fr.up _ _ (by decide)
      have Vb := (Vi.fr Fa (by decide)).rv (s := 1 - s) (by omega)
      have Vc := ((Vi.fr Fa (by decide)).fr Fb (by decide)).rv (s := 1 - s) (by omega)
      simp only [if_true, if_neg (show ¬ (1 : Int32) = 0 by decide), M.2.2.1, if_pos hj, ix_nI (show cN (prt w s r) i < 2 ^ 31 by omega), Nat.reduceAdd, upI_ne _ _ _ _ (show (37 : Nat) ≠ 38 by decide), upI_ne _ _ _ _ (show (37 : Nat) ≠ 39 by decide), upI_ne _ _ _ _ (show (37 : Nat) ≠ 40 by decide), X_start Vb hi, X_end Vc hi, Option.bind_some, nI_1]
      refine ⟨_, rfl, rfl, ?_, ?_⟩
      · have hcn : cN (prt w s r) (i + 1) = cN (prt w s r) i + 1 := by simp only [cN, hp', if_true]
        refine ⟨?_, ?_, ?_, fun k hk hpk => ?_⟩
        · simp [upI, M.1]
        · simp [upI, M.2.1]
        · rw [hcn]; simp [upI]
        · rcases (show k < i ∨ k = i by omega) with h1 | rfl
          · have hlt := cN_lt (p := prt w s r) h1 hpk
            obtain ⟨a, b, c⟩ := M.2.2.2 k h1 hpk
            have hne : cN (prt w s r) k ≠ cN (prt w s r) i := by omega
            simp [upI, hne, a, b, c]
          · simp [upI]
      · exact ((F.tr Fa).tr Fb).tr ((fr.up _ _ (by decide)).tr (fr.up _ _ (by decide)))
  · rintro ⟨hp, v6⟩ ⟨e6, M, F⟩
    replace e6 : v6 = nI (nS w (1 - s)) := e6
    replace M : MW hp w s r (nS w (1 - s)) := M
    replace F : fr [37, 38, 39, 40] h hp := F
    subst e6
    have Vi1 := (V.fr F (by decide)).rv (s := 1 - s) (by omega)
    refine ⟨hp, ?_, M, F⟩
    unfold f_Ma_gather_b44
    simp only [Vi1.2.1, if_pos (nle _)]
    rfl
  · refine ⟨rfl, ⟨?_, ?_, ?_, fun k hk => by omega⟩, F0.tr ((fr.up _ _ (by decide)).tr (fr.up _ _ (by decide)))⟩
    · simp [upI]
    · simp [upI]
    · simp only [cN]; simp [upI]; rfl
/-- how many partners are there -/
def thC (w : Nat → Int32) (s r : Nat) (pl : Int32) : Nat := cN (fun k => prt w s r k && there w (1 - s) k pl) (nS w (1 - s))
set_option maxHeartbeats 400000 in
theorem thC_fI (w : Nat → Int32) (s r : Nat) (pl : Int32) : fI (fun k y => if prt w s r k then (if there w (1 - s) k pl then y + 1 else y) else y) (nS w (1 - s)) 0 = nI (thC w s r pl) := by
  unfold thC
  rw [← cnst_cN]
  apply fI_congr
  intro k x hk
  simp only [cnst]
  by_cases h1 : prt w s r k = true <;> simp [h1]
set_option maxHeartbeats 400000 in
theorem X_countAt {h : HP} {w : Nat → Int32} {s r : Nat} (M : MW h w s r (nS w (1 - s))) (hn : nS w (1 - s) ≤ 40) (pl : Int32) : f_Ma_countAt 37 h pl = some (nI (thC w s r pl)) := by
  have hc := cN_le (prt w s r) (nS w (1 - s))
  rw [← thC_fI, ← fI_sim1 (prt w s r) (fun j (x : Int32) => if h.1 39 j ≤ pl ∧ pl < h.1 40 j then x + 1 else x) (fun k x => if there w (1 - s) k pl then x + 1 else x) (nS w (1 - s)) (fun k hk hp x => by
    obtain ⟨-, b, c⟩ := M.2.2.2 k hk hp
    simp only [b, c, there, Bool.and_eq_true, decide_eq_true_eq])]
  unfold f_Ma_countAt f_Ma_countAt_l4
  refine loop_for (cN (prt w s r) (nS w (1 - s))) (fun j (x : Int32) => if h.1 39 j ≤ pl ∧ pl < h.1 40 j then x + 1 else x) 0 _ (fun i x hi => ?_) ?_
  · unfold f_Ma_countAt_b4
    simp only [M.2.2.1, if_neg (ngt hi (by omega)), if_pos (inb_nI (show i < 40 by omega) (show 40 < 2 ^ 31 by decide)), ix_nI (show i < 2 ^ 31 by omega), Nat.reduceAdd, nI_1]
    by_cases a : h.1 39 i ≤ pl
    · rw [if_neg (Int32.not_lt.mpr a)]
      by_cases b : pl < h.1 40 i
      · rw [if_neg (Int32.not_le.mpr b), if_pos ⟨a, b⟩]
      · rw [if_pos (Int32.not_lt.mp b), if_neg (fun z => b z.2)]
    · rw [if_pos (Int32.not_le.mp a), if_neg (fun z => a z.1)]
  · unfold f_Ma_countAt_b4
    simp only [M.2.2.1, if_pos (nle _)]
    rfl
set_option maxHeartbeats 400000 in
theorem M_partnersAt {m : HP} {w : Nat → Int32} (hw : m.1 1 = w) (R : RowsOk w) {s r : Nat} (hs : s < 2) (hr : r < nS w s) (pl : Int32) : f_Mo_partnersAt 0 m (nI s) (nI r) pl = some (nI (thC w s r pl)) := by
  have hs' : 1 - s < 2 := by omega
  have hn := (R (1 - s) hs').2.1
  have hn2 := (R s hs).2.1
  rw [← thC_fI]
  unfold f_Mo_partnersAt f_Mo_partnersAt_l11
  rw [one_sub hs]
  refine loop_for (nS w (1 - s)) (fun k y => if prt w s r k then (if there w (1 - s) k pl then y + 1 else y) else y) 0 _ (fun i x hi => ?_) ?_
  · unfold f_Mo_partnersAt_b11
    simp only [if_pos (many_ix hs' rfl).1, (many_ix hs' rfl).2, Nat.zero_add, hw, (R (1 - s) hs').1, if_neg (ngt hi hn), M_prt (h := m) hs (show r < 40 by omega) (show i < 40 by omega), M_start (h := m) hs' (show i < 40 by omega) rfl rfl, M_end (h := m) hs' (show i < 40 by omega) rfl rfl, Option.bind_some, nI_1, Int32.add_zero, there, Bool.and_eq_true, decide_eq_true_eq]
    cases prt w s r i with
    | false => simp
    | true =>
      simp only [if_true, if_neg (show ¬ (1 : Int32) = 0 by decide)]
      by_cases a : sp w (1 - s) i ≤ pl
      · rw [if_neg (Int32.not_lt.mpr a)]
        by_cases b : pl < ep w (1 - s) i
        · rw [if_neg (Int32.not_le.mpr b), if_pos ⟨a, b⟩]
        · rw [if_pos (Int32.not_lt.mp b), if_neg (fun z => b z.2)]
      · rw [if_pos (Int32.not_le.mp a), if_neg (fun z => a z.1)]
  · unfold f_Mo_partnersAt_b11
    simp only [if_pos (many_ix hs' rfl).1, (many_ix hs' rfl).2, Nat.zero_add, hw, (R (1 - s) hs').1, if_pos (nle _)]
    rfl
