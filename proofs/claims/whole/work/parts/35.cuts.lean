/-! places put in order, each once (the reference), or each as often as it came (the class) -/
def SE (d : Nat → Int) (k : Nat) (P : Int → Prop) : Prop := (∀ i j, i < j → j < k → d i < d j) ∧ (∀ j, j < k → P (d j)) ∧ ∀ x, P x → ∃ j, j < k ∧ d j = x
set_option maxHeartbeats 400000 in
theorem SE.cg {d : Nat → Int} {k : Nat} {P Q : Int → Prop} (h : SE d k P) (e : ∀ x, P x ↔ Q x) : SE d k Q := ⟨h.1, fun j hj => (e _).mp (h.2.1 j hj), fun x hx => h.2.2 x ((e x).mpr hx)⟩
set_option maxHeartbeats 400000 in
theorem SE_le {d e : Nat → Int} {k l : Nat} {P : Int → Prop} (h1 : SE d k P) (h2 : SE e l P) : ∀ j, j < k → j < l ∧ d j = e j := by
  intro j
  induction j using Nat.strongRecOn with
  | _ j ih =>
    intro hj
    obtain ⟨t, ht, et⟩ := h2.2.2 (d j) (h1.2.1 j hj)
    have htj : j ≤ t := by
      rcases Nat.lt_or_ge t j with h | h
      · obtain ⟨-, e1⟩ := ih t h (by omega)
        have := h1.1 t j h hj
        omega
      · exact h
    refine ⟨by omega, ?_⟩
    have a1 : e j ≤ d j := by
      rcases Nat.lt_or_ge j t with h | h
      · have := h2.1 j t h ht; omega
      · have : j = t := by omega
        subst this; omega
    obtain ⟨u, hu, eu⟩ := h1.2.2 (e j) (h2.2.1 j (by omega))
    have huj : j ≤ u := by
      rcases Nat.lt_or_ge u j with h | h
      · obtain ⟨h3, e1⟩ := ih u h (by omega)
        have := h2.1 u j h (by omega)
        omega
      · exact h
    rcases Nat.lt_or_ge j u with h | h
    · have := h1.1 j u h hu; omega
    · have : j = u := by omega
      subst this; omega
set_option maxHeartbeats 400000 in
theorem SE_uniq {d e : Nat → Int} {k l : Nat} {P : Int → Prop} (h1 : SE d k P) (h2 : SE e l P) : k = l ∧ ∀ j, j < k → d j = e j := by
  refine ⟨?_, fun j hj => (SE_le h1 h2 j hj).2⟩
  rcases Nat.lt_trichotomy k l with h | h | h
  · have := (SE_le h2 h1 k h).1; omega
  · exact h
  · have := (SE_le h1 h2 l h).1; omega
def indG (G : Nat → Int) : Nat → Nat := cN (fun t => decide (G t < G (t + 1)))
set_option maxHeartbeats 400000 in
theorem G_ind {G d : Nat → Int} {n k : Nat} (hs : ∀ i j, i < j → j < n → G i ≤ G j) (S : SE d k (fun x => ∃ i, i < n ∧ G i = x)) : ∀ c, c < n → indG G c < k ∧ d (indG G c) = G c
  | 0, h => by
    obtain ⟨t, ht, et⟩ := S.2.2 (G 0) ⟨0, h, rfl⟩
    have h0 : 0 < k := by omega
    obtain ⟨i, hi, ei⟩ := S.2.1 0 h0
    refine ⟨h0, ?_⟩
    show d 0 = G 0
    have a1 : G 0 ≤ G i := by
      rcases Nat.eq_zero_or_pos i with z | z
      · subst z; omega
      · exact hs 0 i z hi
    rcases Nat.eq_zero_or_pos t with z | z
    · subst z; exact et
    · have := S.1 0 t z ht; omega
  | c + 1, h => by
    obtain ⟨h1, h2⟩ := G_ind hs S c (by omega)
    have hle := hs c (c + 1) (by omega) h
    by_cases hlt : G c < G (c + 1)
    · have e : indG G (c + 1) = indG G c + 1 := by simp only [indG, cN]; rw [if_pos (by simpa using hlt)]
      rw [e]
      obtain ⟨t, ht, et⟩ := S.2.2 (G (c + 1)) ⟨c + 1, h, rfl⟩
      have htj : indG G c < t := by
        rcases Nat.lt_trichotomy (indG G c) t with z | z | z
        · exact z
        · subst z; omega
        · have := S.1 t _ z h1; omega
      refine ⟨by omega, ?_⟩
      rcases Nat.lt_or_ge (indG G c + 1) t with z | z
      · exfalso
        have a1 := S.1 (indG G c) (indG G c + 1) (by omega) (by omega)
        have a2 := S.1 (indG G c + 1) t z ht
        obtain ⟨i, hi, ei⟩ := S.2.1 (indG G c + 1) (by omega)
        rcases Nat.lt_or_ge i (c + 1) with y | y
        · have : G i ≤ G c := by
            rcases Nat.lt_or_ge i c with x | x
            · exact hs i c x (by omega)
            · have : i = c := by omega
              subst this; omega
          omega
        · have : G (c + 1) ≤ G i := by
            rcases Nat.lt_or_ge (c + 1) i with x | x
            · exact hs (c + 1) i x hi
            · have : i = c + 1 := by omega
              subst this; omega
          omega
      · have : t = indG G c + 1 := by omega
        subst this; exact et
    · have e : indG G (c + 1) = indG G c := by simp only [indG, cN]; rw [if_neg (by simpa using hlt)]; rfl
      rw [e]
      exact ⟨h1, by omega⟩
set_option maxHeartbeats 400000 in
theorem G_last {G d : Nat → Int} {n k : Nat} (hs : ∀ i j, i < j → j < n → G i ≤ G j) (S : SE d k (fun x => ∃ i, i < n ∧ G i = x)) (h0 : 0 < n) : indG G (n - 1) + 1 = k := by
  obtain ⟨h1, h2⟩ := G_ind hs S (n - 1) (by omega)
  rcases Nat.lt_or_ge (indG G (n - 1) + 1) k with z | z
  · exfalso
    have a1 := S.1 (indG G (n - 1)) (indG G (n - 1) + 1) (by omega) z
    obtain ⟨i, hi, ei⟩ := S.2.1 _ z
    have : G i ≤ G (n - 1) := by
      rcases Nat.lt_or_ge i (n - 1) with x | x
      · exact hs i (n - 1) x (by omega)
      · have : i = n - 1 := by omega
        subst this; omega
    omega
  · omega
set_option maxHeartbeats 400000 in
theorem srtK_mem {α : Type} {key : α → Int} {f : Nat → α} (n : Nat) (x : Int) : (∃ i, i < n ∧ key (srtK key f n i) = x) ↔ ∃ i, i < n ∧ key (f i) = x := by
  have h := srtK_cnt (key := key) (f := f) (fun y => decide (key y = x)) n
  have p1 := cN_pos (p := fun i => decide (key (srtK key f n i) = x)) n
  have p2 := cN_pos (p := fun i => decide (key (f i) = x)) n
  have ex : ∀ g : Nat → α, (∃ i, i < n ∧ key (g i) = x) ↔ 0 < cN (fun i => decide (key (g i) = x)) n := by
    intro g
    constructor
    · rintro ⟨i, hi, e⟩
      have := cN_lt (p := fun i => decide (key (g i) = x)) hi (by simpa using e)
      omega
    · intro hp
      have := (cN_pos _).mp hp
      cases hf : fstN (fun i => decide (key (g i) = x)) n with
      | none => exact absurd hf this
      | some i =>
        obtain ⟨a, b, -⟩ := fstN_some hf
        exact ⟨i, a, by simpa using b⟩
  rw [ex, ex, h]
/-- the reference's cuts -/
def CT (m : HP) (k : Nat) (P : Int → Prop) : Prop := m.1 0 9 = nI k ∧ k ≤ 190 ∧ SE (fun j => (m.1 7 j).toInt) k P
def shI (m : HP) (c : Nat) : Nat → HP
  | 0 => m
  | t + 1 => upI (shI m c t) 7 (c - t) ((shI m c t).1 7 (c - t - 1))
set_option maxHeartbeats 400000 in
theorem shI_ne (m : HP) (c : Nat) {a : Nat} (ha : a ≠ 7) : ∀ t, (shI m c t).1 a = m.1 a
  | 0 => rfl
  | t + 1 => by
    have : (shI m c (t + 1)).1 a = (shI m c t).1 a := by funext b; exact upI_ne _ _ _ _ ha
    rw [this, shI_ne m c ha t]
set_option maxHeartbeats 400000 in
theorem shI_at (m : HP) (c : Nat) : ∀ t, t ≤ c → ∀ i, (shI m c t).1 7 i = if c - t < i ∧ i ≤ c then m.1 7 (i - 1) else m.1 7 i
  | 0, _, i => by simp only [shI]; rw [if_neg (by omega)]
  | t + 1, ht, i => by
    have ih := shI_at m c t (by omega)
    have e : (shI m c (t + 1)).1 7 i = if i = c - t then (shI m c t).1 7 (c - t - 1) else (shI m c t).1 7 i := upI_s _ _ _ _ _
    rw [e]
    by_cases hi : i = c - t
    · rw [if_pos hi, ih, if_neg (by omega), if_pos (by omega), hi]
    · rw [if_neg hi, ih]
      by_cases h1 : c - t < i ∧ i ≤ c
      · rw [if_pos h1, if_pos (by omega)]
      · rw [if_neg h1, if_neg (by omega)]
set_option maxHeartbeats 400000 in
theorem shI_fr (m : HP) (c t : Nat) : frM [7] [9] m (shI m c t) := ⟨fun a _ hb => shI_ne m c (fun e => hb (e ▸ List.mem_singleton.mpr rfl)) t, fun j _ => by rw [shI_ne m c (by decide)]⟩
set_option maxHeartbeats 400000 in
theorem M_cuts {m : HP} {k : Nat} {P : Int → Prop} (C : CT m k P) (hk : k < 190) (v : Int32) : ∃ m' k', f_Mo_cuts 0 m v = some m' ∧ CT m' k' (fun x => P x ∨ x = v.toInt) ∧ k' ≤ k + 1 ∧ frM [7] [9] m m' := by
  obtain ⟨c0, c1, S⟩ := C
  -- the first that isn't less
  have hfind : ∃ p, p ≤ k ∧ (∀ j, j < p → (m.1 7 j).toInt < v.toInt) ∧ (p < k → v.toInt ≤ (m.1 7 p).toInt) := by
    cases hf : fstN (fun j => decide (v.toInt ≤ (m.1 7 j).toInt)) k with
    | none => exact ⟨k, Nat.le_refl k, fun j hj => by have := fstN_no hf j hj; simp at this; omega, fun h => by omega⟩
    | some p =>
      obtain ⟨a, b, c⟩ := fstN_some hf
      exact ⟨p, by omega, fun j hj => by have := c j hj; simp at this; omega, fun _ => by simpa using b⟩
  obtain ⟨p, hp, hlo, hup⟩ := hfind
  have outer : ∀ T, f_Mo_cuts_j26 0 m v (nI p) = some T → f_Mo_cuts 0 m v = some T := by
    intro T hT
    unfold f_Mo_cuts f_Mo_cuts_l2
    refine loop_up (fun i => nI i) p (fun i hi => ?_) ?_
    · unfold f_Mo_cuts_b2
      have h1 := hlo i hi
      have h2 : ¬ v ≤ m.1 7 i := by rw [Int32.le_iff_toInt_le]; omega
      simp only [Nat.zero_add, c0, if_neg (nI_ge (show i < k by omega) (show k < 2 ^ 31 by omega)), if_pos (inb_nI (show i < 200 by omega) (show 200 < 2 ^ 31 by decide)), ix_nI (show i < 2 ^ 31 by omega), if_neg h2, nI_1]
    · unfold f_Mo_cuts_b2
      simp only [Nat.zero_add, c0, hT]
      rcases Nat.lt_or_ge p k with h | h
      · have h2 : v ≤ m.1 7 p := by rw [Int32.le_iff_toInt_le]; exact hup h
        simp only [if_neg (nI_ge h (show k < 2 ^ 31 by omega)), if_pos (inb_nI (show p < 200 by omega) (show 200 < 2 ^ 31 by decide)), ix_nI (show p < 2 ^ 31 by omega), if_pos h2]
        rfl
      · simp only [if_pos (nI_le h (show p < 2 ^ 31 by omega))]
        rfl
  by_cases hin : p < k ∧ m.1 7 p = v
  · refine ⟨m, k, outer m ?_, ⟨c0, c1, S.cg (fun x => ⟨Or.inl, fun h => h.elim id (fun e => ?_)⟩)⟩, by omega, frM.rf⟩
    · unfold f_Mo_cuts_j26
      simp only [Nat.zero_add, c0, if_neg (nI_ge hin.1 (show k < 2 ^ 31 by omega)), if_pos (inb_nI (show p < 200 by omega) (show 200 < 2 ^ 31 by decide)), ix_nI (show p < 2 ^ 31 by omega), hin.2, if_true]
    · have := S.2.1 p hin.1
      simp only [hin.2] at this
      rw [e]; exact this
  · have hl : f_Mo_cuts_l50 0 m v (nI p) (m, nI k) = some (upI (upI (shI m k (k - p)) 7 p v) 0 9 (nI (k + 1))) := by
      unfold f_Mo_cuts_l50
      have := loop_up (body := fun s : HP × Int32 => f_Mo_cuts_b50 0 s.1 v (nI p) s.2) (t := upI (upI (shI m k (k - p)) 7 p v) 0 9 (nI (k + 1))) (fun t => (shI m k t, nI (k - t))) (k - p) (fun t ht => ?_) ?_
      · exact this
      · unfold f_Mo_cuts_b50
        have e1 : nI (k - t) - 1 = nI (k - t - 1) := pk_sub (b := 1) (by omega)
        have e2 : nI (k - t) + (-1) = nI (k - (t + 1)) := by
          rw [show k - t = (k - (t + 1)) + 1 by omega]; exact pk_m1 _
        simp only [Nat.zero_add, if_neg (nI_ge (show p < k - t by omega) (show k - t < 2 ^ 31 by omega)), e1, e2, if_pos (inb_nI (show k - t - 1 < 200 by omega) (show 200 < 2 ^ 31 by decide)), if_pos (inb_nI (show k - t < 200 by omega) (show 200 < 2 ^ 31 by decide)), ix_nI (show k - t - 1 < 2 ^ 31 by omega), ix_nI (show k - t < 2 ^ 31 by omega)]
        rfl
      · unfold f_Mo_cuts_b50
        have hkp : k - (k - p) = p := by omega
        have e9 : (upI (shI m k (k - p)) 7 p v).1 0 9 = nI k := by
          rw [upI_ne _ _ _ _ (by decide), shI_ne m k (by decide)]; exact c0
        simp only [Nat.zero_add, hkp, if_pos (nle _), if_pos (inb_nI (show p < 200 by omega) (show 200 < 2 ^ 31 by decide)), ix_nI (show p < 2 ^ 31 by omega), e9, nI_1]
        rfl
    have at7 : ∀ i, (upI (upI (shI m k (k - p)) 7 p v) 0 9 (nI (k + 1))).1 7 i = if i < p then m.1 7 i else if i = p then v else if i ≤ k then m.1 7 (i - 1) else m.1 7 i := by
      intro i
      rw [upI_ne _ _ _ _ (by decide), upI_s, shI_at m k (k - p) (by omega)]
      by_cases h1 : i < p
      · rw [if_neg (by omega), if_neg (by omega), if_pos h1]
      · by_cases h2 : i = p
        · rw [if_pos h2, if_neg h1, if_pos h2]
        · rw [if_neg h2, if_neg h1, if_neg h2]
          by_cases h3 : i ≤ k
          · rw [if_pos (by omega), if_pos h3]
          · rw [if_neg (by omega), if_neg h3]
    have hne : p < k → v.toInt < (m.1 7 p).toInt := fun h => by
      have h1 := hup h
      have h2 : ¬ m.1 7 p = v := fun e => hin ⟨h, e⟩
      have : (m.1 7 p).toInt ≠ v.toInt := fun e => h2 (Int32.toInt_inj.mp e)
      omega
    refine ⟨upI (upI (shI m k (k - p)) 7 p v) 0 9 (nI (k + 1)), k + 1, outer _ ?_, ⟨?_, by omega, ?_, ?_, ?_⟩, Nat.le_refl _, ?_⟩
    · unfold f_Mo_cuts_j26
      simp only [Nat.zero_add, c0]
      rcases Nat.lt_or_ge p k with h | h
      · have h2 : ¬ m.1 7 p = v := fun e => hin ⟨h, e⟩
        simp only [if_neg (nI_ge h (show k < 2 ^ 31 by omega)), if_pos (inb_nI (show p < 200 by omega) (show 200 < 2 ^ 31 by decide)), ix_nI (show p < 2 ^ 31 by omega), if_neg h2]
        exact hl
      · simp only [if_pos (nI_le h (show p < 2 ^ 31 by omega))]
        exact hl
    · rw [upI_s, if_pos rfl]
    · intro i j hij hj
      have upx : ∀ t, p ≤ t → t < k → v.toInt < (m.1 7 t).toInt := by
        intro t h1 h2
        have h3 := hne (by omega)
        rcases Nat.lt_or_ge p t with z | z
        · have h4 : (m.1 7 p).toInt < (m.1 7 t).toInt := S.1 p t z h2
          omega
        · have : t = p := by omega
          subst this; exact h3
      simp only [at7]
      by_cases i1 : i < p
      · rw [if_pos i1]
        by_cases j1 : j < p
        · rw [if_pos j1]; exact S.1 i j hij (by omega)
        · rw [if_neg j1]
          by_cases j2 : j = p
          · rw [if_pos j2]; exact hlo i i1
          · rw [if_neg j2, if_pos (show j ≤ k by omega)]
            have h3 := upx (j - 1) (by omega) (by omega)
            have h4 := hlo i i1
            omega
      · rw [if_neg i1, if_neg (show ¬ j < p by omega), if_neg (show ¬ j = p by omega), if_pos (show j ≤ k by omega)]
        by_cases i2 : i = p
        · rw [if_pos i2]; exact upx (j - 1) (by omega) (by omega)
        · rw [if_neg i2, if_pos (show i ≤ k by omega)]
          exact S.1 (i - 1) (j - 1) (by omega) (by omega)
    · intro j hj
      simp only [at7]
      by_cases j1 : j < p
      · rw [if_pos j1]; exact Or.inl (S.2.1 j (by omega))
      · rw [if_neg j1]
        by_cases j2 : j = p
        · rw [if_pos j2]; exact Or.inr rfl
        · rw [if_neg j2, if_pos (show j ≤ k by omega)]; exact Or.inl (S.2.1 (j - 1) (by omega))
    · intro x hx
      simp only [at7]
      rcases hx with hx | hx
      · obtain ⟨j, hj, ej⟩ := S.2.2 x hx
        rcases Nat.lt_or_ge j p with z | z
        · exact ⟨j, by omega, by rw [if_pos z]; exact ej⟩
        · exact ⟨j + 1, by omega, by rw [if_neg (by omega), if_neg (by omega), if_pos (by omega)]; exact ej⟩
      · exact ⟨p, by omega, by rw [if_neg (by omega), if_pos rfl]; exact hx.symm⟩
    · exact ((shI_fr m k (k - p)).tr (frM.up _ _ (by decide) (by decide))).tr (frM.up0 _ (by decide))
