/-! the class's ends of a key -/
def CE (h : HP) (n : Nat) (P : Int → Prop) : Prop := ∃ f, CW h 32 n f ∧ (∀ i, i < n → ∃ v : Int32, f i = v.toInt64) ∧ ∀ x, (∃ i, i < n ∧ k64 (f i) = x) ↔ P x
set_option maxHeartbeats 400000 in
theorem CE.cg {h : HP} {n : Nat} {P Q : Int → Prop} (C : CE h n P) (e : ∀ x, P x ↔ Q x) : CE h n Q := by
  obtain ⟨f, a, b, c⟩ := C
  exact ⟨f, a, b, fun x => (c x).trans (e x)⟩
set_option maxHeartbeats 400000 in
theorem k64_32 (v : Int32) : k64 v.toInt64 = v.toInt := by
  unfold k64; exact Int32.toInt_toInt64 v
set_option maxHeartbeats 400000 in
theorem CE_put {h : HP} {n : Nat} {P : Int → Prop} (C : CE h n P) (hn : n < 160) (v : Int32) : ∃ h', f_Co_put 32 h v.toInt64 = some h' ∧ CE h' (n + 1) (fun x => P x ∨ x = v.toInt) ∧ frC 32 h h' := by
  obtain ⟨f, a, b, c⟩ := C
  obtain ⟨h', e, W, F⟩ := X_cput a hn v.toInt64
  refine ⟨h', e, ⟨_, W, fun i hi => ?_, fun x => ⟨?_, ?_⟩⟩, F⟩
  · by_cases z : i = n
    · exact ⟨v, if_pos z⟩
    · obtain ⟨u, hu⟩ := b i (by omega)
      exact ⟨u, by show (if i = n then _ else _) = _; rw [if_neg z]; exact hu⟩
  · rintro ⟨i, hi, he⟩
    replace he : k64 (if i = n then v.toInt64 else f i) = x := he
    by_cases z : i = n
    · rw [if_pos z, k64_32] at he; exact Or.inr he.symm
    · rw [if_neg z] at he; exact Or.inl ((c x).mp ⟨i, by omega, he⟩)
  · rintro (hx | hx)
    · obtain ⟨i, hi, he⟩ := (c x).mpr hx
      exact ⟨i, by omega, by show k64 (if i = n then _ else _) = _; rw [if_neg (by omega)]; exact he⟩
    · exact ⟨n, by omega, by show k64 (if n = n then _ else _) = _; rw [if_pos rfl, k64_32, hx]⟩
set_option maxHeartbeats 400000 in
theorem RV.fc {h h' : HP} {w : Nat → Int32} {s n : Nat} (V : RV h (rc 1 s) w s n) (F : frC 32 h h') : RV h' (rc 1 s) w s n :=
  V.cg (fun k hk => F.1 _ (by unfold rc; split <;> omega))
set_option maxHeartbeats 400000 in
theorem X_putEnds {h : HP} {w : Nat → Int32} {s n0 : Nat} (V : RV h (rc 1 s) w s (nS w s)) (key : Int32) (C : CE h n0 (PS w key s 0)) (hn0 : n0 ≤ 80) : ∃ h' n, f_Ro_putEnds (rc 1 s) h key 32 = some h' ∧ CE h' n (PS w key (s + 1) 0) ∧ n ≤ n0 + 80 ∧ frC 32 h h' := by
  have hn := V.1
  unfold f_Ro_putEnds f_Ro_putEnds_l2
  have key1 := loop_inv (body := fun x : HP × Int32 => f_Ro_putEnds_b2 (rc 1 s) x.1 key 32 x.2) (fun i (x : HP × Int32) => x.2 = nI i ∧ ∃ n, CE x.1 n (PS w key s i) ∧ n ≤ n0 + 2 * i ∧ frC 32 h x.1) (nS w s) (fun t : HP => ∃ n, CE t n (PS w key (s + 1) 0) ∧ n ≤ n0 + 80 ∧ frC 32 h t) (fun i x hi hI => ?_) (fun x hI => ?_) (h, 0) ⟨rfl, n0, C, by omega, frC.rf⟩
  · obtain ⟨t, e, n, C', l', F'⟩ := key1
    exact ⟨t, n, e, C', l', F'⟩
  · obtain ⟨hx, v5⟩ := x
    obtain ⟨e5, n, C, hk, F⟩ := hI
    replace e5 : v5 = nI i := e5
    replace C : CE hx n (PS w key s i) := C
    replace F : frC 32 h hx := F
    subst e5
    have V1 := V.fc F
    show ∃ s', f_Ro_putEnds_b2 (rc 1 s) hx key 32 (nI i) = some (.inl s') ∧ _
    unfold f_Ro_putEnds_b2
    simp only [V1.2.1, if_neg (ngt hi hn), if_pos (inb_nI (show i < 40 by omega) (show 40 < 2 ^ 31 by decide)), ix_nI (show i < 2 ^ 31 by omega), (V1.2.2 i hi).2.1, X_start V1 hi, Option.bind_some, nI_1]
    by_cases a : fld w s i 1 = key
    · obtain ⟨h1, e1, C1, F1⟩ := CE_put C (by omega) (sp w s i)
      have V2 := V1.fc F1
      obtain ⟨h2, e2, C2, F2⟩ := CE_put C1 (by omega) (ep w s i)
      refine ⟨(h2, nI (i + 1)), ?_, rfl, n + 1 + 1, C2.cg (fun x => ?_), by omega, (F.tr F1).tr F2⟩
      · simp only [if_pos a, e1, X_end V2 hi, e2, Option.bind_some]
      · rw [PS_succ, or_assoc]; simp [a]
    · exact ⟨(hx, nI (i + 1)), by simp only [if_neg a], rfl, n, C.cg (fun x => by rw [PS_succ]; simp [a]), by omega, F⟩
  · obtain ⟨hx, v5⟩ := x
    obtain ⟨e5, n, C, hk, F⟩ := hI
    replace e5 : v5 = nI (nS w s) := e5
    replace C : CE hx n (PS w key s (nS w s)) := C
    replace F : frC 32 h hx := F
    subst e5
    have V1 := V.fc F
    refine ⟨hx, ?_, n, C.cg (fun x => PS_side x), by omega, F⟩
    show f_Ro_putEnds_b2 (rc 1 s) hx key 32 (nI (nS w s)) = _
    unfold f_Ro_putEnds_b2
    simp only [V1.2.1, if_pos (nle _)]
    rfl
set_option maxHeartbeats 400000 in
/-- sorted -/
theorem CE_sort {h : HP} {n : Nat} {P : Int → Prop} (C : CE h n P) : ∃ (h' : HP) (G : Nat → Int32), f_Co_sort 32 h = some h' ∧ CW h' 32 n (fun i => (G i).toInt64) ∧ (∀ i j, i < j → j < n → (G i).toInt ≤ (G j).toInt) ∧ (∀ x, (∃ i, i < n ∧ (G i).toInt = x) ↔ P x) ∧ frC 32 h h' := by
  obtain ⟨f, a, b, c⟩ := C
  obtain ⟨h', e, W, F⟩ := X_sort a
  have back : ∀ i, i < n → ((srtK k64 f n i).toInt32).toInt64 = srtK k64 f n i := by
    intro i hi
    obtain ⟨j, hj, ej⟩ := (srtK_mem (key := k64) (f := f) n (k64 (srtK k64 f n i))).mp ⟨i, hi, rfl⟩
    obtain ⟨v, hv⟩ := b j hj
    have : srtK k64 f n i = v.toInt64 := by rw [← hv]; exact (Int64.toInt_inj.mp ej).symm
    rw [this, Int32.toInt32_toInt64]
  have kk : ∀ i, i < n → (srtK k64 f n i).toInt32.toInt = k64 (srtK k64 f n i) := fun i hi => by
    rw [← k64_32, back i hi]
  refine ⟨h', fun i => (srtK k64 f n i).toInt32, e, ⟨W.1, W.2.1, fun i hi => ?_⟩, fun i j hij hj => ?_, fun x => ?_, F⟩
  · show _ = ((srtK k64 f n i).toInt32).toInt64
    rw [back i hi]; exact W.2.2 i hi
  · show (srtK k64 f n i).toInt32.toInt ≤ (srtK k64 f n j).toInt32.toInt
    rw [kk i (by omega), kk j hj]; exact srtK_srt n i j hij hj
  · rw [← c x, ← srtK_mem (key := k64) (f := f) n x]
    constructor
    · rintro ⟨i, hi, h⟩
      exact ⟨i, hi, by rw [← kk i hi]; exact h⟩
    · rintro ⟨i, hi, h⟩
      exact ⟨i, hi, by show (srtK k64 f n i).toInt32.toInt = x; rw [kk i hi]; exact h⟩
