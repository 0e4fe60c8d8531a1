/-! the small machine: a world of cells in the order of a tree, its steps, and what they say of the machine -/
/-- what the cells hold: numbers by cell and place, longs by cell and place -/
abbrev HP : Type := (Nat → Nat → Int32) × (Nat → Nat → Int64)
/-- the cells' number, each one's kind (0 .. 9 a class, 10 ints, 11 longs), an array's length, what the one foreign reference holds -/
abbrev Shp : Type := Nat × (Nat → Nat) × (Nat → Nat) × Value
abbrev inb (i : Int32) (n : Nat) : Prop := 0 ≤ i.toInt ∧ i.toInt < (n : Int)
abbrev ix (i : Int32) : Nat := i.toNatClampNeg
def upI (hp : HP) (c j : Nat) (x : Int32) : HP := (fun a b => if a = c ∧ b = j then x else hp.1 a b, hp.2)
def upJ (hp : HP) (c j : Nat) (x : Int64) : HP := (hp.1, fun a b => if a = c ∧ b = j then x else hp.2 a b)
/-- where, from an object on, the cell of a reference field lies; 0: the field is a number -/
def offR : Nat → Nat → Nat := fun k s => match k with
  | 0 => (match s with | 0 => 1 | _ => 0)
  | 1 => (match s with | 0 => 1 | 4 => 2 | 5 => 3 | 6 => 4 | 7 => 5 | _ => 0)
  | 2 => (match s with | 0 => 1 | 1 => 2 | 2 => 3 | _ => 0)
  | 3 => (match s with | 0 => 1 | 1 => 2 | _ => 0)
  | 4 => (match s with | 0 => 1 | 1 => 2 | 2 => 3 | 3 => 4 | 4 => 5 | _ => 0)
  | 5 => (match s with | 0 => 1 | 1 => 7 | 2 => 13 | 3 => 19 | 4 => 22 | 5 => 28 | _ => 0)
  | 6 => (match s with | 0 => 1 | 1 => 2 | _ => 0)
  | 7 => (match s with | 0 => 1 | 1 => 2 | _ => 0)
  | 8 => (match s with | 0 => 1 | 2 => 32 | 3 => 34 | 4 => 37 | 5 => 41 | _ => 0)
  | _ => (match s with | 0 => 1 | 1 => 2 | 3 => 3 | 4 => 4 | 5 => 5 | 7 => 6 | 8 => 7 | 10 => 8 | 11 => 9 | 13 => 10 | _ => 0)
def isK (sh : Shp) (c k : Nat) : Prop := c < sh.1 ∧ sh.2.1 c = k
def isA (sh : Shp) (c k n : Nat) : Prop := c < sh.1 ∧ sh.2.1 c = k ∧ sh.2.2.1 c = n
def fv (sh : Shp) (ad : Nat → Nat) (hp : HP) (c k : Nat) : Value := if offR (sh.2.1 c) k = 0 then (if sh.2.1 c = 8 ∧ k = 1 then sh.2.2.2 else .int (hp.1 c k)) else .ref (ad (c + offR (sh.2.1 c) k))
def cE (cy : ClassId × ClassId) (sh : Shp) (ad : Nat → Nat) (hp : HP) (c : Nat) : va_E := if sh.2.1 c = 10 then .inl (cy.1, sh.2.2.1 c, .inl (hp.1 c)) else if sh.2.1 c = 11 then .inl (cy.2, sh.2.2.1 c, .inr (.inl (hp.2 c))) else .inr (sh.2.1 c, (List.range (nsl (sh.2.1 c))).map (fv sh ad hp c))
def wl (cy : ClassId × ClassId) (sh : Shp) (ad : Nat → Nat) (hp : HP) : va_W := (List.range sh.1).map (fun c => (ad c, cE cy sh ad hp c))
theorem wl_get {cy : ClassId × ClassId} {sh : Shp} {ad : Nat → Nat} {hp : HP} {c : Nat} (h : c < sh.1) : (wl cy sh ad hp)[c]? = some (ad c, cE cy sh ad hp c) := by
  simp [wl, h]
theorem wl_at {cy : ClassId × ClassId} {sh : Shp} {ad : Nat → Nat} {hp : HP} {c : Nat} {q : Nat × va_E} (h : (wl cy sh ad hp)[c]? = some q) : c < sh.1 ∧ q = (ad c, cE cy sh ad hp c) := by
  have hc : c < sh.1 := by
    have := (List.getElem?_eq_some_iff.mp h).1
    simpa [wl] using this
  rw [wl_get hc] at h
  exact ⟨hc, (Option.some.inj h).symm⟩
theorem wl_ext {cy : ClassId × ClassId} {sh : Shp} {ad : Nat → Nat} {hp hp' : HP} {c : Nat} {e : va_E} (hc : c < sh.1) (he : e = cE cy sh ad hp' c) (ho : ∀ i, i ≠ c → cE cy sh ad hp' i = cE cy sh ad hp i) : (wl cy sh ad hp).set c (ad c, e) = wl cy sh ad hp' := by
  apply List.ext_getElem?
  intro i
  by_cases hi : i = c
  · subst hi
    rw [wl_get hc, List.getElem?_set_self (by simpa [wl] using hc), he]
  · rw [List.getElem?_set_ne (Ne.symm hi)]
    by_cases hl : i < sh.1
    · rw [wl_get hl, wl_get hl, ho i hi]
    · rw [List.getElem?_eq_none (by simpa [wl] using hl), List.getElem?_eq_none (by simpa [wl] using hl)]
theorem cE_upI_ne {cy : ClassId × ClassId} {sh : Shp} {ad : Nat → Nat} {hp : HP} {c j : Nat} {x : Int32} {i : Nat} (h : i ≠ c) : cE cy sh ad (upI hp c j x) i = cE cy sh ad hp i := by
  have e1 : (upI hp c j x).1 i = hp.1 i := by funext b; simp [upI, h]
  have e2 : fv sh ad (upI hp c j x) i = fv sh ad hp i := by funext k; simp only [fv, e1]
  simp only [cE, e1, e2, show (upI hp c j x).2 = hp.2 from rfl]
theorem cE_upJ_ne {cy : ClassId × ClassId} {sh : Shp} {ad : Nat → Nat} {hp : HP} {c j : Nat} {x : Int64} {i : Nat} (h : i ≠ c) : cE cy sh ad (upJ hp c j x) i = cE cy sh ad hp i := by
  have e1 : (upJ hp c j x).2 i = hp.2 i := by funext b; simp [upJ, h]
  have e2 : fv sh ad (upJ hp c j x) i = fv sh ad hp i := by funext k; simp only [fv, show (upJ hp c j x).1 = hp.1 from rfl]
  simp only [cE, e1, e2, show (upJ hp c j x).1 = hp.1 from rfl]
theorem wl_setA {cy : ClassId × ClassId} {sh : Shp} {ad : Nat → Nat} {hp : HP} {c n j : Nat} {x : Int32} (hc : isA sh c 10 n) : (wl cy sh ad hp).set c (ad c, .inl (cy.1, n, .inl (upd (hp.1 c) j x))) = wl cy sh ad (upI hp c j x) := by
  refine wl_ext hc.1 ?_ (fun i hi => cE_upI_ne hi)
  have e1 : (upI hp c j x).1 c = upd (hp.1 c) j x := by funext b; simp [upI, upd]
  simp only [cE, hc.2.1, if_true, hc.2.2, e1]
theorem wl_setJ {cy : ClassId × ClassId} {sh : Shp} {ad : Nat → Nat} {hp : HP} {c n j : Nat} {x : Int64} (hc : isA sh c 11 n) : (wl cy sh ad hp).set c (ad c, .inl (cy.2, n, .inr (.inl (vp_updL (hp.2 c) j x)))) = wl cy sh ad (upJ hp c j x) := by
  refine wl_ext hc.1 ?_ (fun i hi => cE_upJ_ne hi)
  have e1 : (upJ hp c j x).2 c = vp_updL (hp.2 c) j x := by funext b; simp [upJ, vp_updL]
  simp only [cE, hc.2.1, hc.2.2, e1, show ¬ ((11 : Nat) = 10) by decide, if_false, if_true]
theorem wl_setF {cy : ClassId × ClassId} {sh : Shp} {ad : Nat → Nat} {hp : HP} {c kd k : Nat} {x : Int32} (hc : isK sh c kd) (h10 : kd < 10) (h0 : offR kd k = 0) (h1 : ¬ (kd = 8 ∧ k = 1)) : (wl cy sh ad hp).set c (ad c, .inr (kd, ((List.range (nsl kd)).map (fv sh ad hp c)).set k (.int x))) = wl cy sh ad (upI hp c k x) := by
  refine wl_ext hc.1 ?_ (fun i hi => cE_upI_ne hi)
  have n10 : ¬ kd = 10 := by omega
  have n11 : ¬ kd = 11 := by omega
  simp only [cE, hc.2, n10, n11, if_false]
  congr 2
  apply List.ext_getElem?
  intro i
  by_cases hi : i = k
  · subst hi
    by_cases hl : i < nsl kd
    · rw [List.getElem?_set_self (by simpa using hl)]
      simp only [List.getElem?_map, List.getElem?_range hl, Option.map_some]
      simp [fv, hc.2, h0, h1, upI]
    · rw [List.getElem?_eq_none (by simpa using hl), List.getElem?_eq_none (by simpa using hl)]
  · rw [List.getElem?_set_ne (Ne.symm hi)]
    by_cases hl : i < nsl kd
    · simp only [List.getElem?_map, List.getElem?_range hl, Option.map_some]
      simp [fv, upI, hi]
    · rw [List.getElem?_eq_none (by simpa using hl), List.getElem?_eq_none (by simpa using hl)]
theorem cE_obj {cy : ClassId × ClassId} {sh : Shp} {ad : Nat → Nat} {hp : HP} {c kd : Nat} (hc : isK sh c kd) (h10 : kd < 10) : (wl cy sh ad hp)[c]? = some (ad c, .inr (kd, (List.range (nsl kd)).map (fv sh ad hp c))) := by
  rw [wl_get hc.1]
  have n10 : ¬ kd = 10 := by omega
  have n11 : ¬ kd = 11 := by omega
  simp only [cE, hc.2, n10, n11, if_false]
theorem cE_ints {cy : ClassId × ClassId} {sh : Shp} {ad : Nat → Nat} {hp : HP} {c n : Nat} (hc : isA sh c 10 n) : (wl cy sh ad hp)[c]? = some (ad c, .inl (cy.1, n, .inl (hp.1 c))) := by
  rw [wl_get hc.1]
  simp only [cE, hc.2.1, hc.2.2, if_true]
theorem cE_longs {cy : ClassId × ClassId} {sh : Shp} {ad : Nat → Nat} {hp : HP} {c n : Nat} (hc : isA sh c 11 n) : (wl cy sh ad hp)[c]? = some (ad c, .inl (cy.2, n, .inr (.inl (hp.2 c)))) := by
  rw [wl_get hc.1]
  simp only [cE, hc.2.1, hc.2.2, show ¬ ((11 : Nat) = 10) by decide, if_false, if_true]
/-- the cells' addresses are unlike -/
def inj (sh : Shp) (ad : Nat → Nat) : Prop := ∀ i j, i < sh.1 → j < sh.1 → ad i = ad j → i = j
def AA (sh : Shp) (ad : Nat → Nat) (sz : Nat) : Nat → Prop := fun q => (∃ c, c < sh.1 ∧ q = ad c) ∨ sz ≤ q
theorem wl_D {cy : ClassId × ClassId} {sh : Shp} {ad : Nat → Nat} {hp : HP} {sz : Nat} (h : inj sh ad) : va_D (AA sh ad sz) (wl cy sh ad hp) := by
  refine ⟨fun i j p q hp hq e => ?_, fun k q hq => ?_⟩
  · obtain ⟨h1, rfl⟩ := wl_at hp
    obtain ⟨h2, rfl⟩ := wl_at hq
    exact h i j h1 h2 e
  · obtain ⟨h1, rfl⟩ := wl_at hq
    exact Or.inl ⟨k, h1, rfl⟩
/-- values: a reference is a cell's number; retAddr stands for the table COMPOSED -/
def cv (ad : Nat → Nat) (ct : Nat) : Value → Value
  | .ref c => .ref (ad c)
  | .retAddr _ => .ref ct
  | v => v
def lg : List (Option Value) → Nat → Option Value
  | [], _ => none
  | a :: _, 0 => a
  | _ :: t, i + 1 => lg t i
def clr (a : Option Value) : Option Value := match a with
  | some (.long _) => none
  | some (.double _) => none
  | a => a
def lst1 : List (Option Value) → Nat → Value → List (Option Value)
  | [], _, _ => []
  | _ :: t, 0, v => some v :: t
  | a :: t, i + 1, v => (match i with | 0 => clr a | _ + 1 => a) :: lst1 t i v
def lst2 : List (Option Value) → Nat → Value → List (Option Value)
  | [], _, _ => []
  | _ :: t, 0, v => some v :: (match t with | [] => [] | _ :: u => none :: u)
  | a :: t, i + 1, v => (match i with | 0 => clr a | _ + 1 => a) :: lst2 t i v
theorem lst1_len (lv : List (Option Value)) : ∀ (i : Nat) (v : Value), (lst1 lv i v).length = lv.length := by
  induction lv with
  | nil => intro i v; rfl
  | cons a t ih => intro i v; cases i with
    | zero => rfl
    | succ i => simp [lst1, ih]
theorem lst2_len (lv : List (Option Value)) : ∀ (i : Nat) (v : Value), (lst2 lv i v).length = lv.length := by
  induction lv with
  | nil => intro i v; rfl
  | cons a t ih => intro i v; cases i with
    | zero => cases t <;> simp [lst2]
    | succ i => simp [lst2, ih]
theorem clr_spec {a : Option Value} {u : Value} (h : clr a = some u) : a = some u ∧ u.category ≠ 2 := by
  rcases a with _ | v
  · cases h
  · cases v <;> simp [clr] at h <;> subst h <;> exact ⟨rfl, fun h => by cases h⟩
theorem lst1_spec (lv : List (Option Value)) : ∀ (i j : Nat) (v u : Value), lg (lst1 lv i v) j = some u → (j = i ∧ u = v) ∨ (j ≠ i ∧ lg lv j = some u ∧ ¬ (j + 1 = i ∧ u.category = 2)) := by
  induction lv with
  | nil => intro i j v u h; simp [lst1, lg] at h
  | cons a t ih =>
    intro i j v u h
    cases i with
    | zero => cases j with
      | zero => simp [lst1, lg] at h; exact Or.inl ⟨rfl, h.symm⟩
      | succ j => simp only [lst1, lg] at h; exact Or.inr ⟨by omega, h, by omega⟩
    | succ i => cases j with
      | zero =>
        simp only [lst1, lg] at h
        refine Or.inr ⟨by omega, ?_⟩
        cases i with
        | zero =>
          obtain ⟨h1, h2⟩ := clr_spec h
          exact ⟨by simpa [lg] using h1, fun z => h2 z.2⟩
        | succ i => exact ⟨by simpa [lg] using h, by omega⟩
      | succ j =>
        simp only [lst1, lg] at h
        rcases ih i j v u h with ⟨h1, h2⟩ | ⟨h1, h2, h3⟩
        · exact Or.inl ⟨by omega, h2⟩
        · exact Or.inr ⟨by omega, by simpa [lg] using h2, fun z => h3 ⟨by omega, z.2⟩⟩
theorem lst2_spec (lv : List (Option Value)) : ∀ (i j : Nat) (v u : Value), lg (lst2 lv i v) j = some u → (j = i ∧ u = v) ∨ (j ≠ i ∧ j ≠ i + 1 ∧ lg lv j = some u ∧ ¬ (j + 1 = i ∧ u.category = 2)) := by
  induction lv with
  | nil => intro i j v u h; simp [lst2, lg] at h
  | cons a t ih =>
    intro i j v u h
    cases i with
    | zero => cases j with
      | zero => simp [lst2, lg] at h; exact Or.inl ⟨rfl, h.symm⟩
      | succ j =>
        cases t with
        | nil => simp [lst2, lg] at h
        | cons b t => cases j with
          | zero => simp [lst2, lg] at h
          | succ j => simp only [lst2, lg] at h; exact Or.inr ⟨by omega, by omega, by simpa [lg] using h, by omega⟩
    | succ i => cases j with
      | zero =>
        simp only [lst2, lg] at h
        refine Or.inr ⟨by omega, by omega, ?_⟩
        cases i with
        | zero =>
          obtain ⟨h1, h2⟩ := clr_spec h
          exact ⟨by simpa [lg] using h1, fun z => h2 z.2⟩
        | succ i => exact ⟨by simpa [lg] using h, by omega⟩
      | succ j =>
        simp only [lst2, lg] at h
        rcases ih i j v u h with ⟨h1, h2⟩ | ⟨h1, h1', h2, h3⟩
        · exact Or.inl ⟨by omega, h2⟩
        · exact Or.inr ⟨by omega, by omega, by simpa [lg] using h2, fun z => h3 ⟨by omega, z.2⟩⟩
def lvL (ad : Nat → Nat) (ct : Nat) (lv : List (Option Value)) : List (Nat × Value) := (List.range lv.length).filterMap (fun j => (lg lv j).map (fun u => (j, cv ad ct u)))
theorem lg_lt {lv : List (Option Value)} : ∀ {j : Nat} {u : Value}, lg lv j = some u → j < lv.length := by
  induction lv with
  | nil => intro j u h; simp [lg] at h
  | cons a t ih => intro j u h; cases j with
    | zero => simp
    | succ j => simp only [lg] at h; have := ih h; simp; omega
theorem lvL_mem {ad : Nat → Nat} {ct : Nat} {lv : List (Option Value)} {j : Nat} {u : Value} (h : lg lv j = some u) : (j, cv ad ct u) ∈ lvL ad ct lv :=
  List.mem_filterMap.mpr ⟨j, List.mem_range.mpr (lg_lt h), by simp [h]⟩
def LR (ad : Nat → Nat) (ct nL : Nat) (lv : List (Option Value)) (ls : Array Slot) : Prop := lv.length = nL ∧ ls.size = nL ∧ lv_wf ls ∧ ∀ (i : Nat) (v : Value), lg lv i = some v → ls[i]? = some (.val (cv ad ct v))
theorem LR.has {ad : Nat → Nat} {ct nL : Nat} {lv : List (Option Value)} {ls : Array Slot} (h : LR ad ct nL lv ls) : lv_has ls nL (lvL ad ct lv) := by
  refine ⟨h.2.1, h.2.2.1, fun q hq => ?_⟩
  obtain ⟨j, -, hj⟩ := List.mem_filterMap.mp hq
  obtain ⟨u, hu, rfl⟩ := Option.map_eq_some_iff.mp hj
  exact h.2.2.2 j u hu
theorem cv_cat (ad : Nat → Nat) (ct : Nat) (u : Value) : (cv ad ct u).category = u.category := by cases u <;> rfl
theorem LR.st1 {ad : Nat → Nat} {ct nL : Nat} {lv : List (Option Value)} {ls ls' : Array Slot} {i : Nat} {v : Value} (h : LR ad ct nL lv ls) (h' : lv_has ls' nL ((i, cv ad ct v) :: (lvL ad ct lv).filter (fun q => !(q.1 == i) && !(q.1 + 1 == i && q.2.category == 2)))) : LR ad ct nL (lst1 lv i v) ls' := by
  refine ⟨by rw [lst1_len]; exact h.1, h'.1, h'.2.1, fun j u hu => ?_⟩
  rcases lst1_spec lv i j v u hu with ⟨rfl, rfl⟩ | ⟨h1, h2, h3⟩
  · exact h'.2.2 (j, _) List.mem_cons_self
  · refine h'.2.2 (j, _) (List.mem_cons_of_mem _ (List.mem_filter.mpr ⟨lvL_mem h2, ?_⟩))
    simp only [cv_cat, Bool.and_eq_true, Bool.not_eq_true', beq_eq_false_iff_ne, Bool.and_eq_false_iff]
    refine ⟨h1, ?_⟩
    by_cases hj : j + 1 = i
    · exact Or.inr (fun z => h3 ⟨hj, by rw [← cv_cat ad ct u]; exact z⟩)
    · exact Or.inl hj
theorem LR.st2 {ad : Nat → Nat} {ct nL : Nat} {lv : List (Option Value)} {ls ls' : Array Slot} {i : Nat} {v : Value} (h : LR ad ct nL lv ls) (h' : lv_has ls' nL ((i, cv ad ct v) :: (lvL ad ct lv).filter (fun q => !(q.1 == i) && (!(q.1 == i + 1) && !(q.1 + 1 == i && q.2.category == 2))))) : LR ad ct nL (lst2 lv i v) ls' := by
  refine ⟨by rw [lst2_len]; exact h.1, h'.1, h'.2.1, fun j u hu => ?_⟩
  rcases lst2_spec lv i j v u hu with ⟨rfl, rfl⟩ | ⟨h1, h1', h2, h3⟩
  · exact h'.2.2 (j, _) List.mem_cons_self
  · refine h'.2.2 (j, _) (List.mem_cons_of_mem _ (List.mem_filter.mpr ⟨lvL_mem h2, ?_⟩))
    simp only [cv_cat, Bool.and_eq_true, Bool.not_eq_true', beq_eq_false_iff_ne, Bool.and_eq_false_iff]
    refine ⟨h1, h1', ?_⟩
    by_cases hj : j + 1 = i
    · exact Or.inr (fun z => h3 ⟨hj, by rw [← cv_cat ad ct u]; exact z⟩)
    · exact Or.inl hj
theorem LR.weak {ad : Nat → Nat} {ct nL : Nat} {lv lv' : List (Option Value)} {ls : Array Slot} (h : LR ad ct nL lv ls) (hl : lv'.length = lv.length) (hw : ∀ i v, lg lv' i = some v → lg lv i = some v) : LR ad ct nL lv' ls := ⟨hl.trans h.1, h.2.1, h.2.2.1, fun i v hv => h.2.2.2 i v (hw i v hv)⟩
