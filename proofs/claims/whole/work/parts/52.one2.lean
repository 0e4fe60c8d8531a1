/-! one: the class's codes of rows by start, value, number -/
def vN (x : Int32) : Nat := (x.toInt + 2147483648).toNat
def cd1 (w : Nat → Int32) (s o : Nat) : Nat := (pN (sp w s o) * 4294967296 + vN (fld w s o 4)) * 64 + o
set_option maxHeartbeats 400000 in
theorem vN_lt (x : Int32) : vN x < 4294967296 := by
  have := Int32.toInt_lt x
  have := Int32.le_toInt x
  unfold vN; omega
set_option maxHeartbeats 400000 in
theorem vN_l (x : Int32) : Int32.toInt64 x + 2147483648 = lN (vN x) := by
  have h1 := Int32.toInt_lt x
  have h2 := Int32.le_toInt x
  refine Int64.toInt_inj.mp ?_
  rw [pk_lT (by have := vN_lt x; omega), Int64.toInt_add, Int32.toInt_toInt64, show (2147483648 : Int64).toInt = 2147483648 from rfl]
  unfold vN
  simp only [Int.bmod]
  omega
set_option maxHeartbeats 400000 in
theorem cd1_l {w : Nat → Int32} {s o : Nat} (h1 : -2000000 ≤ (sp w s o).toInt) (h2 : (sp w s o).toInt ≤ 2000001) (ho : o < 64) : (((Int32.toInt64 (sp w s o + 2000000)) <<< (Int32.toInt64 38 &&& 63)) + (((Int32.toInt64 (fld w s o 4)) + 2147483648) <<< (Int32.toInt64 6 &&& 63))) + (Int32.toInt64 (nI o)) = lN (cd1 w s o) := by
  have hp : pN (sp w s o) < 2 ^ 31 := by unfold pN; omega
  rw [pl_nI h1 h2, lN_of hp, vN_l, show (38 : Int32) = nI 38 from rfl, wb_shl _ (show 38 < 64 by omega), show (6 : Int32) = nI 6 from rfl, wb_shl _ (show 6 < 64 by omega), lN_of (show o < 2 ^ 31 by omega), lN_add, lN_add]
  congr 1
  unfold cd1
  omega
def lx (w : Nat → Int32) (s a b : Nat) : Prop := fld w s a 1 < fld w s b 1 ∨ (fld w s a 1 = fld w s b 1 ∧ (sp w s a < sp w s b ∨ (sp w s a = sp w s b ∧ fld w s a 4 < fld w s b 4)))
set_option maxHeartbeats 400000 in
theorem cd1_lt {w : Nat → Int32} {s a b : Nat} (ha : a < 64) (hb : b < 64) (r1 : -2000000 ≤ (sp w s a).toInt) (r2 : -2000000 ≤ (sp w s b).toInt) (h : cd1 w s a < cd1 w s b) : sp w s a < sp w s b ∨ (sp w s a = sp w s b ∧ fld w s a 4 ≤ fld w s b 4) := by
  have h1 := Int32.le_toInt (fld w s a 4)
  have h2 := Int32.le_toInt (fld w s b 4)
  have h3 := Int32.toInt_lt (fld w s a 4)
  have h4 := Int32.toInt_lt (fld w s b 4)
  unfold cd1 pN vN at h
  rw [Int32.lt_iff_toInt_lt, ← Int32.toInt_inj, Int32.le_iff_toInt_le]
  omega
/-- rows in the order of a code -/
def RG (h : HP) (n : Nat) (q : Nat → Nat) (p : Nat → Bool) (cd : Nat → Nat) (N : Nat) : Prop := CW h 32 n (fun i => lN (cd (q i))) ∧ (∀ i, i < n → q i < N ∧ p (q i) = true) ∧ (∀ i j, i < j → j < n → cd (q i) < cd (q j)) ∧ ∀ o, o < N → p o = true → ∃ i, i < n ∧ q i = o
set_option maxHeartbeats 400000 in
theorem RG_sort {h : HP} {p : Nat → Bool} {cd : Nat → Nat} {N : Nat} (hb : ∀ o, o < N → cd o < 2 ^ 63) (ci : ∀ a b, a < N → b < N → cd a = cd b → a = b) (C : CW h 32 (cN p N) (fun i => lN (cd (nth p i)))) : ∃ h' q, f_Co_sort 32 h = some h' ∧ RG h' (cN p N) q p cd N ∧ frC 32 h h' := by
  obtain ⟨h', e, W, F⟩ := X_sort C
  generalize hn : cN p N = n at *
  generalize hf : (fun i => lN (cd (nth p i))) = f at *
  have fe : ∀ i, f i = lN (cd (nth p i)) := fun i => by rw [← hf]
  have nt : ∀ i, i < n → nth p i < N ∧ p (nth p i) = true ∧ cN p (nth p i) = i := by
    intro i hi
    rw [← hn] at hi
    exact nth_cN hi
  have ck : ∀ o, o < N → k64 (lN (cd o)) = (cd o : Int) := fun o ho => by
    have := hb o ho
    unfold k64; rw [pk_lT this]
  have ex : ∀ i, ∃ o, i < n → o < N ∧ p o = true ∧ srtK k64 f n i = lN (cd o) := by
    intro i
    by_cases hi : i < n
    · obtain ⟨j, hj, ej⟩ := (srtK_mem (key := k64) (f := f) n (k64 (srtK k64 f n i))).mp ⟨i, hi, rfl⟩
      have := Int64.toInt_inj.mp ej
      exact ⟨nth p j, fun _ => ⟨(nt j hj).1, (nt j hj).2.1, by rw [← this, fe]⟩⟩
    · exact ⟨0, fun z => absurd z hi⟩
  refine ⟨h', fun i => Classical.choose (ex i), e, ⟨⟨W.1, W.2.1, fun i hi => ?_⟩, fun i hi => ?_, fun i j hij hj => ?_, fun o ho po => ?_⟩, F⟩
  · rw [W.2.2 i hi]; exact (Classical.choose_spec (ex i) hi).2.2
  · have s := Classical.choose_spec (ex i) hi
    exact ⟨s.1, s.2.1⟩
  · have si := Classical.choose_spec (ex i) (by omega)
    have sj := Classical.choose_spec (ex j) hj
    have le := srtK_srt (key := k64) (f := f) n i j hij hj
    rw [si.2.2, sj.2.2, ck _ si.1, ck _ sj.1] at le
    show cd (Classical.choose (ex i)) < cd (Classical.choose (ex j))
    rcases Nat.lt_or_ge (cd (Classical.choose (ex i))) (cd (Classical.choose (ex j))) with z | z
    · exact z
    · exfalso
      have eq : cd (Classical.choose (ex i)) = cd (Classical.choose (ex j)) := by omega
      have c1 := srtK_cnt (key := k64) (f := f) (fun x => decide (x = lN (cd (Classical.choose (ex j))))) n
      have c2 := cN_two (p := fun t => decide (srtK k64 f n t = lN (cd (Classical.choose (ex j))))) hij hj (decide_eq_true (by rw [si.2.2, eq])) (decide_eq_true sj.2.2)
      have c3 := cN_one (p := fun t => decide (f t = lN (cd (Classical.choose (ex j))))) n (fun a b ha hb' pa pb => by
        have ea := of_decide_eq_true pa
        have eb := of_decide_eq_true pb
        have e1 : k64 (f a) = k64 (f b) := by rw [ea, eb]
        rw [fe, fe, ck _ (nt a ha).1, ck _ (nt b hb').1] at e1
        have e2 := ci _ _ (nt a ha).1 (nt b hb').1 (by omega)
        rw [← (nt a ha).2.2, ← (nt b hb').2.2, e2])
      omega
  · have hc : cN p o < n := by rw [← hn]; exact cN_lt ho po
    obtain ⟨i, hi, ei⟩ := (srtK_mem (key := k64) (f := f) n (k64 (f (cN p o)))).mpr ⟨_, hc, rfl⟩
    refine ⟨i, hi, ?_⟩
    have s := Classical.choose_spec (ex i) hi
    rw [s.2.2, ck _ s.1, fe, nth_at po, ck _ ho] at ei
    have ej : cd (Classical.choose (ex i)) = cd o := Int.ofNat_inj.mp ei
    exact ci _ _ s.1 ho ej
set_option maxHeartbeats 400000 in
theorem CW_rowG {h : HP} {p : Nat → Bool} {cd : Nat → Nat} {i : Nat} (C : CW h 32 (cN p i) (fun t => lN (cd (nth p t)))) (hi : i < 160) (pi : p i = true) : ∃ h', f_Co_put 32 h (lN (cd i)) = some h' ∧ CW h' 32 (cN p (i + 1)) (fun t => lN (cd (nth p t))) ∧ frC 32 h h' := by
  have hc := cN_le p i
  obtain ⟨h', e, W, F⟩ := X_cput C (by omega) (lN (cd i))
  refine ⟨h', e, ?_, F⟩
  have en : cN p (i + 1) = cN p i + 1 := by simp only [cN, pi, if_true]
  rw [en]
  refine ⟨W.1, W.2.1, fun t ht => ?_⟩
  rw [W.2.2 t ht]
  show (if t = cN p i then lN (cd i) else lN (cd (nth p t))) = lN (cd (nth p t))
  by_cases z : t = cN p i
  · rw [if_pos z, z, nth_at pi]
  · rw [if_neg z]
/-! spans as they grow -/
def ocF (w : Nat → Int32) (s : Nat) (op : Nat → Nat) (re : Nat → Int32) (ct : Nat → Nat) (i : Nat) : Nat → Int32 := cel (fld w s (op i) 1) (sp w s (op i) >>> (1 &&& 31)) (re i >>> (1 &&& 31)) (fld w s (op i) 4) (nI (ct i))
/-- the class's spans of the rows D -/
def OC (h : HP) (w : Nat → Int32) (s : Nat) (F : Nat → Nat) (D : Nat → Bool) (np : Nat) (op : Nat → Nat) (re : Nat → Int32) (ct g : Nat → Nat) : Prop :=
  PW h np (ocF w s op re ct) ∧ (∀ i, i < np → h.1 36 i = re i) ∧ np ≤ cN D (nS w s) ∧
  (∀ o, o < nS w s → D o = true → g o < np ∧ fld w s o 1 = fld w s (op (g o)) 1 ∧ fld w s o 4 = fld w s (op (g o)) 4 ∧ sp w s (op (g o)) ≤ sp w s o ∧ ep w s o ≤ re (g o) ∧ F o = F (op (g o))) ∧
  (∀ i, i < np → op i < nS w s ∧ D (op i) = true ∧ g (op i) = i ∧ (∃ o, o < nS w s ∧ D o = true ∧ g o = i ∧ re i = ep w s o) ∧ ct i = cN (fun o => D o && decide (g o = i)) (nS w s)) ∧
  (∀ i j, i < j → j < np → lx w s (op i) (op j)) ∧
  (∀ i j, i < j → j < np → fld w s (op i) 1 = fld w s (op j) 1 → fld w s (op i) 4 = fld w s (op j) 4 → re i < sp w s (op j))
set_option maxHeartbeats 400000 in
theorem X_reach {h : HP} {n : Nat} {G : Nat → Nat → Int32} (P : PW h n G) {i : Nat} (hi : i < n) : f_Pa_reach 34 h (nI i) = some (h.1 36 i) := by
  have hn := P.1
  unfold f_Pa_reach
  rw [if_neg (nI_pos (by omega)), P.2.1, if_neg (nI_ge hi (by omega)), if_pos (inb_nI (show i < 160 by omega) (by decide)), ix_nI (by omega)]
set_option maxHeartbeats 400000 in
theorem cN_ins {p r : Nat → Bool} {x : Nat} : ∀ n, (∀ i, i ≠ x → p i = r i) → p x = true → r x = false → x < n → cN p n = cN r n + 1
  | 0, _, _, _, h => by omega
  | n + 1, h, h1, h2, hx => by
    simp only [cN]
    rcases (show x < n ∨ x = n by omega) with z | z
    · rw [cN_ins n h h1 h2 z, h n (by omega)]; omega
    · rw [← z, h1, h2, cN_congr x (fun i hi => h i (by omega))]; simp
set_option maxHeartbeats 400000 in
theorem X_widen {h : HP} {np : Nat} {G : Nat → Nat → Int32} (P : PW h np G) {i : Nat} (hi : i < np) (v : Int32) : ∃ h', f_Pa_widen 34 h (nI i) v = some h' ∧ PW h' np (fun k j => if k = i then (if j = 2 then ((if h.1 36 i < v then v else h.1 36 i) >>> (1 &&& 31)) else if j = 4 then G i 4 + 1 else G k j) else G k j) ∧ (∀ k, h'.1 36 k = if k = i then (if h.1 36 i < v then v else h.1 36 i) else h.1 36 k) ∧ fr [35, 36] h h' ∧ h'.2 = h.2 := by
  have hn := P.1
  have e0 : nI i * 5 = nI (i * 5) := by rw [← pk_mul]; rfl
  have e2 : nI (i * 5) + 2 = nI (i * 5 + 2) := by rw [← nI_add]; rfl
  have e4 : nI (i * 5) + 4 = nI (i * 5 + 4) := by rw [← nI_add]; rfl
  have b0 : inb (nI i) 160 := inb_nI (by omega) (by decide)
  have b2 : inb (nI (i * 5 + 2)) 800 := inb_nI (by omega) (by decide)
  have b4 : inb (nI (i * 5 + 4)) 800 := inb_nI (by omega) (by decide)
  unfold f_Pa_widen
  rw [if_neg (nI_pos (by omega)), P.2.1, if_neg (nI_ge hi (by omega)), e0, e2, e4]
  simp only [if_pos b0, if_pos b2, if_pos b4, X_timeOf, Option.bind_some, ix_nI (show i < 2 ^ 31 by omega), ix_nI (show i * 5 + 2 < 2 ^ 31 by omega), ix_nI (show i * 5 + 4 < 2 ^ 31 by omega), Nat.reduceAdd]
  generalize hx : (if h.1 36 i < v then v else h.1 36 i) = x
  refine ⟨_, rfl, ⟨P.1, ?_, fun k hk j hj => ?_⟩, fun k => ?_, ?_, rfl⟩
  · rw [upI_ne _ _ _ _ (by decide), upI_ne _ _ _ _ (by decide), upI_ne _ _ _ _ (by decide)]; exact P.2.1
  · have r1 : (upI h 36 i x).1 36 i = x := by rw [upI_s, if_pos rfl]
    rw [r1, upI_s, upI_s, upI_s]
    rw [upI_ne _ _ _ _ (show 35 ≠ 36 by decide), upI_ne _ _ _ _ (show 35 ≠ 36 by decide)]
    rw [if_neg (show ¬ i * 5 + 4 = i * 5 + 2 by omega)]
    show _ = if k = i then (if j = 2 then x >>> (1 &&& 31) else if j = 4 then G i 4 + 1 else G k j) else G k j
    by_cases z : k = i
    · rw [if_pos z]
      by_cases y : j = 2
      · rw [if_neg (by omega), if_pos (by omega), if_pos y]
      · rw [if_neg y]
        by_cases u : j = 4
        · rw [if_pos (by omega), if_pos u, P.2.2 i hi 4 (by omega)]
        · rw [if_neg (by omega), if_neg (by omega), if_neg u]; exact P.2.2 k hk j hj
    · rw [if_neg z, if_neg (by omega), if_neg (by omega)]; exact P.2.2 k hk j hj
  · rw [upI_ne _ _ _ _ (by decide), upI_ne _ _ _ _ (by decide), upI_s]
  · exact (fr.up _ _ (by decide)).tr ((fr.up _ _ (by decide)).tr (fr.up _ _ (by decide)))
set_option maxHeartbeats 400000 in
theorem X_setReach {h : HP} {np : Nat} {G : Nat → Nat → Int32} (P : PW h (np + 1) G) (v : Int32) : f_Pa_setReach 34 h v = some (upI h 36 np v) := by
  have hn := P.1
  unfold f_Pa_setReach
  rw [P.2.1, if_neg (nI_nle (by omega) (by omega)), show nI (np + 1) - 1 = nI np from nI_pred np, if_pos (inb_nI (show np < 160 by omega) (by decide)), ix_nI (by omega)]
