/-! split: the parts of a row -/
set_option maxHeartbeats 400000 in
theorem in_op {a b v : Int32} (h : a < b) : (a + 1 ≤ v ∧ v ≤ b - 1) ↔ (a < v ∧ v < b) := by
  have h1 := Int32.lt_iff_toInt_lt.mp h
  have a1 := Int32.toInt_lt a
  have a2 := Int32.le_toInt a
  have b1 := Int32.toInt_lt b
  have b2 := Int32.le_toInt b
  have ea : (a + 1).toInt = a.toInt + 1 := by
    rw [Int32.toInt_add]; simp only [Int.bmod, show (1 : Int32).toInt = 1 from rfl]; omega
  have eb : (b - 1).toInt = b.toInt - 1 := by
    rw [Int32.toInt_sub]; simp only [Int.bmod, show (1 : Int32).toInt = 1 from rfl]; omega
  rw [Int32.le_iff_toInt_le, Int32.le_iff_toInt_le, Int32.lt_iff_toInt_lt, Int32.lt_iff_toInt_lt, ea, eb]
  omega
def ins (w : Nat → Int32) (s r o : Nat) (x : Int) : Prop := (x = (sp w (1 - s) o).toInt ∨ x = (ep w (1 - s) o).toInt) ∧ (sp w s r).toInt < x ∧ x < (ep w s r).toInt
def IP (w : Nat → Int32) (s r i : Nat) (x : Int) : Prop := (x = (sp w s r).toInt ∨ x = (ep w s r).toInt) ∨ ∃ o, o < i ∧ prt w s r o = true ∧ ins w s r o x
set_option maxHeartbeats 400000 in
theorem IP_succ {w : Nat → Int32} {s r i : Nat} (x : Int) : IP w s r (i + 1) x ↔ IP w s r i x ∨ (prt w s r i = true ∧ ins w s r i x) := by
  unfold IP
  constructor
  · rintro (h | ⟨o, ho, hp, hi⟩)
    · exact Or.inl (Or.inl h)
    · rcases (show o < i ∨ o = i by omega) with z | rfl
      · exact Or.inl (Or.inr ⟨o, z, hp, hi⟩)
      · exact Or.inr ⟨hp, hi⟩
  · rintro ((h | ⟨o, ho, hp, hi⟩) | ⟨hp, hi⟩)
    · exact Or.inl h
    · exact Or.inr ⟨o, by omega, hp, hi⟩
    · exact Or.inr ⟨i, by omega, hp, hi⟩
set_option maxHeartbeats 400000 in
/-- a place that the class puts if it lies inside -/
theorem X_putInside {h : HP} {w : Nat → Int32} {s r n : Nat} (M4 : h.1 37 4 = sp w s r) (M5 : h.1 37 5 = ep w s r) {P : Int → Prop} (C : CE h n P) (hn : n < 160) (v : Int32) : ∃ h' n', f_Ma_putInside 37 h 32 v = some h' ∧ CE h' n' (fun x => P x ∨ (x = v.toInt ∧ (sp w s r).toInt < x ∧ x < (ep w s r).toInt)) ∧ n' ≤ n + 1 ∧ frC 32 h h' := by
  unfold f_Ma_putInside
  rw [M4, M5]
  by_cases a : v ≤ sp w s r
  · refine ⟨h, n, by simp only [if_pos a], C.cg (fun x => ⟨Or.inl, ?_⟩), by omega, frC.rf⟩
    rintro (z | ⟨z1, z2, z3⟩)
    · exact z
    · have := Int32.le_iff_toInt_le.mp a; omega
  · by_cases b : ep w s r ≤ v
    · refine ⟨h, n, by simp only [if_neg a, if_pos b], C.cg (fun x => ⟨Or.inl, ?_⟩), by omega, frC.rf⟩
      rintro (z | ⟨z1, z2, z3⟩)
      · exact z
      · have := Int32.le_iff_toInt_le.mp b; omega
    · obtain ⟨h', e, C', F⟩ := CE_put C hn v
      refine ⟨h', n + 1, by simp only [if_neg a, if_neg b, e, Option.bind_some], C'.cg (fun x => or_congr Iff.rfl ⟨fun z => ⟨z, ?_, ?_⟩, fun z => z.1⟩), by omega, F⟩
      · have : ¬ v.toInt ≤ (sp w s r).toInt := fun y => a (Int32.le_iff_toInt_le.mpr y)
        omega
      · have : ¬ (ep w s r).toInt ≤ v.toInt := fun y => b (Int32.le_iff_toInt_le.mpr y)
        omega
def spF (w : Nat → Int32) (s r : Nat) (d : Nat → Int32) (c i : Nat) : Int32 := cel (tmO (d c)) (tmO (d (c + 1))) (nI (thC w s r (d c))) 0 0 i
set_option maxHeartbeats 400000 in
theorem X_partsWalk {h : HP} {w : Nat → Int32} {s r : Nat} (M : MW h w s r (nS w (1 - s))) (h40 : nS w (1 - s) ≤ 40) {n k : Nat} {G d : Nat → Int32} (C : CW h 32 n (fun i => (G i).toInt64)) (hs : ∀ i j, i < j → j < n → (G i).toInt ≤ (G j).toInt) (S : SE (fun j => (d j).toInt) k (fun x => ∃ i, i < n ∧ (G i).toInt = x)) (hn0 : 0 < n) (P : PW h 0 (spF w s r d)) : ∃ h', f_Ma_layParts_l70 37 h 32 34 (h, 1) = some h' ∧ PW h' (k - 1) (spF w s r d) ∧ fr [34, 35] h h' := by
  have hn := C.1
  have ind := G_ind (G := fun i => (G i).toInt) (d := fun j => (d j).toInt) hs S
  have kn : indG (fun i => (G i).toInt) (n - 1) = k - 1 := by
    have := G_last (G := fun i => (G i).toInt) (d := fun j => (d j).toInt) hs S hn0; omega
  unfold f_Ma_layParts_l70
  have key1 := loop_inv (body := fun x : HP × Int32 => f_Ma_layParts_b70 37 x.1 32 34 x.2) (fun i (x : HP × Int32) => x.2 = nI (i + 1) ∧ PW x.1 (indG (fun i => (G i).toInt) i) (spF w s r d) ∧ fr [34, 35] h x.1 ∧ x.1.2 = h.2) (n - 1) (fun t : HP => PW t (k - 1) (spF w s r d) ∧ fr [34, 35] h t) (fun i x hi hI => ?_) (fun x hI => ?_) (h, 1) ⟨rfl, P, fr.rf, rfl⟩
  · exact key1
  · obtain ⟨hx, v5⟩ := x
    obtain ⟨e5, P, F, e2⟩ := hI
    replace e5 : v5 = nI (i + 1) := e5
    replace P : PW hx (indG (fun i => (G i).toInt) i) (spF w s r d) := P
    replace F : fr [34, 35] h hx := F
    replace e2 : hx.2 = h.2 := e2
    subst e5
    have C1 := C.fp F e2
    have M1 := M.fr F (by decide) (by decide) (by decide) (by decide)
    obtain ⟨ik, id⟩ := ind i (by omega)
    obtain ⟨ik1, id1⟩ := ind (i + 1) (by omega)
    replace id : d (indG (fun i => (G i).toInt) i) = G i := Int32.toInt_inj.mp id
    replace id1 : d (indG (fun i => (G i).toInt) (i + 1)) = G (i + 1) := Int32.toInt_inj.mp id1
    have is : indG (fun i => (G i).toInt) (i + 1) = indG (fun i => (G i).toInt) i + (if decide ((G i).toInt < (G (i + 1)).toInt) then 1 else 0) := rfl
    have il : indG (fun i => (G i).toInt) i ≤ i := cN_le _ i
    show ∃ s', f_Ma_layParts_b70 37 hx 32 34 (nI (i + 1)) = some (.inl s') ∧ _
    unfold f_Ma_layParts_b70
    simp only [C1.2.1, if_neg (show ¬ nI n ≤ nI (i + 1) from nI_ge (by omega) (by omega)), show nI (i + 1) - 1 = nI i from pk_sub (b := 1) (by omega), X_cat C1 (show i < n by omega), X_cat C1 (show i + 1 < n by omega), Option.bind_some, t3264, X_countAt M1 h40, X_timeOf, nI_1]
    generalize hj : indG (fun i => (G i).toInt) i = j at *
    generalize hj1 : indG (fun i => (G i).toInt) (i + 1) = j1 at *
    by_cases le : G (i + 1) ≤ G i
    · have nl : ¬ (G i).toInt < (G (i + 1)).toInt := by have := Int32.le_iff_toInt_le.mp le; omega
      have ej : j1 = j := by rw [is, decide_eq_false nl]; rfl
      refine ⟨(hx, nI (i + 2)), by simp only [if_pos le], rfl, ?_, F, e2⟩
      show PW hx j1 _
      rw [ej]; exact P
    · have nl : (G i).toInt < (G (i + 1)).toInt := by
        have : ¬ (G (i + 1)).toInt ≤ (G i).toInt := fun z => le (Int32.le_iff_toInt_le.mpr z)
        omega
      have ej : j1 = j + 1 := by rw [is, decide_eq_true nl]; rfl
      obtain ⟨h', eh, P', F'⟩ := X_pput P (by omega) (tmO (G i)) (tmO (G (i + 1))) (nI (thC w s r (G i))) 0 0
      refine ⟨(h', nI (i + 2)), ?_, rfl, ?_, F.tr F', (X_pput2 eh).trans e2⟩
      · simp only [if_neg le]
        rw [show f_Pa_put 34 hx (G i >>> (1 &&& 31)) (G (i + 1) >>> (1 &&& 31)) (nI (thC w s r (G i))) 0 0 = some h' from eh]
        rfl
      · show PW h' j1 _
        rw [ej]
        refine P'.cg2 (fun c hc i' => ?_)
        by_cases e : c = j
        · rw [if_pos e]; unfold spF
          rw [e, id, ← ej, id1]
        · rw [if_neg e]
  · obtain ⟨hx, v5⟩ := x
    obtain ⟨e5, P, F, e2⟩ := hI
    replace e5 : v5 = nI (n - 1 + 1) := e5
    replace P : PW hx (indG (fun i => (G i).toInt) (n - 1)) (spF w s r d) := P
    replace F : fr [34, 35] h hx := F
    replace e2 : hx.2 = h.2 := e2
    subst e5
    rw [kn] at P
    have C1 := C.fp F e2
    refine ⟨hx, ?_, P, F⟩
    show f_Ma_layParts_b70 37 hx 32 34 (nI (n - 1 + 1)) = some (.inr hx)
    unfold f_Ma_layParts_b70
    simp only [C1.2.1, if_pos (show nI n ≤ nI (n - 1 + 1) from nI_le (by omega) (by omega))]
    rfl
