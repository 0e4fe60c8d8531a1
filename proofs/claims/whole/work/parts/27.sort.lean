/-! sorting by insertion, as both sides do it; the class's codes -/
def posK {α : Type} (key : α → Int) (f : Nat → α) (x : α) : Nat → Nat
  | 0 => 0
  | k + 1 => if key x < key (f k) then posK key f x k else k + 1
def insK {α : Type} (key : α → Int) (f : Nat → α) (c : Nat) (x : α) : Nat → α := fun i => if i < posK key f x c then f i else if i = posK key f x c then x else if i ≤ c then f (i - 1) else f i
def srtK {α : Type} (key : α → Int) (f : Nat → α) : Nat → Nat → α
  | 0 => f
  | n + 1 => insK key (srtK key f n) n (srtK key f n n)
def Srt {α : Type} (key : α → Int) (f : Nat → α) (n : Nat) : Prop := ∀ i j, i < j → j < n → key (f i) ≤ key (f j)
section SK
variable {α : Type} {key : α → Int} {f : Nat → α} {x : α}
set_option maxHeartbeats 400000 in
theorem posK_le : ∀ c, posK key f x c ≤ c
  | 0 => Nat.le_refl 0
  | c + 1 => by
    have := posK_le c
    simp only [posK]; split <;> omega
set_option maxHeartbeats 400000 in
theorem posK_up : ∀ c i, posK key f x c ≤ i → i < c → key x < key (f i)
  | 0, i, _, h => by omega
  | c + 1, i, h1, h2 => by
    simp only [posK] at h1
    split at h1
    · rename_i hk
      rcases (show i < c ∨ i = c by omega) with h | rfl
      · exact posK_up c i h1 h
      · exact hk
    · omega
set_option maxHeartbeats 400000 in
theorem posK_dn : ∀ c, 0 < posK key f x c → ¬ key x < key (f (posK key f x c - 1))
  | 0, h => by simp [posK] at h
  | c + 1, h => by
    simp only [posK] at h ⊢
    split
    · rename_i hk
      rw [if_pos hk] at h
      exact posK_dn c h
    · rename_i hk
      simpa using hk
set_option maxHeartbeats 400000 in
theorem insK_srt {c : Nat} (h : Srt key f c) : Srt key (insK key f c x) (c + 1) := by
  intro i j hij hj
  have hp := posK_le (key := key) (f := f) (x := x) c
  have up := posK_up (key := key) (f := f) (x := x) c
  have dn := posK_dn (key := key) (f := f) (x := x) c
  generalize hP : posK key f x c = P at *
  have low : ∀ k, k < P → key (f k) ≤ key x := by
    intro k hk
    have d := dn (by omega)
    rcases (show k < P - 1 ∨ k = P - 1 by omega) with h1 | h1
    · have := h k (P - 1) h1 (by omega); omega
    · subst h1; omega
  unfold insK
  rw [hP]
  by_cases i1 : i < P
  · rw [if_pos i1]
    by_cases j1 : j < P
    · rw [if_pos j1]; exact h i j hij (by omega)
    · rw [if_neg j1]
      by_cases j2 : j = P
      · rw [if_pos j2]; exact low i i1
      · rw [if_neg j2, if_pos (by omega)]
        rcases (show i < j - 1 by omega) with h1
        exact h i (j - 1) h1 (by omega)
  · rw [if_neg i1, if_neg (show ¬ j < P by omega), if_neg (show ¬ j = P by omega), if_pos (show j ≤ c by omega)]
    by_cases i2 : i = P
    · rw [if_pos i2]
      have := up (j - 1) (by omega) (by omega); omega
    · rw [if_neg i2, if_pos (show i ≤ c by omega)]
      exact h (i - 1) (j - 1) (by omega) (by omega)
set_option maxHeartbeats 400000 in
theorem cN_split (p : Nat → Bool) (a : Nat) : ∀ b, cN p (a + b) = cN p a + cN (fun i => p (a + i)) b
  | 0 => by simp [cN]
  | b + 1 => by
    have := cN_split p a b
    rw [show a + (b + 1) = a + b + 1 from rfl]
    simp only [cN, this]; omega
set_option maxHeartbeats 400000 in
theorem insK_cnt (p : α → Bool) (c : Nat) : cN (fun i => p (insK key f c x i)) (c + 1) = cN (fun i => p (f i)) c + (if p x then 1 else 0) := by
  have hp := posK_le (key := key) (f := f) (x := x) c
  generalize hP : posK key f x c = P at *
  obtain ⟨k, rfl⟩ : ∃ k, c = P + k := ⟨c - P, by omega⟩
  rw [show P + k + 1 = P + (1 + k) by omega, cN_split, cN_split, cN_split (fun i => p (f i)) P k]
  have e1 : cN (fun i => p (insK key f (P + k) x i)) P = cN (fun i => p (f i)) P := cN_congr P (fun i hi => by simp only [insK]; rw [hP, if_pos hi])
  have e2 : cN (fun i => p (insK key f (P + k) x (P + i))) 1 = if p x then 1 else 0 := by
    simp only [cN, insK]; rw [hP]; simp
  have e3 : cN (fun i => p (insK key f (P + k) x (P + (1 + i)))) k = cN (fun i => p (f (P + i))) k := cN_congr k (fun i hi => by
    simp only [insK]; rw [hP, if_neg (by omega), if_neg (by omega), if_pos (by omega), show P + (1 + i) - 1 = P + i by omega])
  rw [e1, e2, e3]; omega
set_option maxHeartbeats 400000 in
theorem insK_out {c i : Nat} (h : c < i) : insK key f c x i = f i := by
  have hp := posK_le (key := key) (f := f) (x := x) c
  unfold insK
  rw [if_neg (by omega), if_neg (by omega), if_neg (by omega)]
set_option maxHeartbeats 400000 in
theorem srtK_out : ∀ n i, n ≤ i → srtK key f n i = f i
  | 0, i, _ => rfl
  | n + 1, i, h => by
    simp only [srtK]
    rw [insK_out (by omega)]
    exact srtK_out n i (by omega)
set_option maxHeartbeats 400000 in
theorem srtK_srt : ∀ n, Srt key (srtK key f n) n
  | 0 => fun i j _ h => by omega
  | n + 1 => insK_srt (srtK_srt n)
set_option maxHeartbeats 400000 in
theorem srtK_cnt (p : α → Bool) : ∀ n, cN (fun i => p (srtK key f n i)) n = cN (fun i => p (f i)) n
  | 0 => rfl
  | n + 1 => by
    simp only [srtK]
    rw [insK_cnt, srtK_cnt p n, srtK_out n n (Nat.le_refl n)]
    rfl
end SK
/-- the codes of the class: how many, which -/
def CW (h : HP) (cc n : Nat) (f : Nat → Int64) : Prop := n ≤ 160 ∧ h.1 cc 1 = nI n ∧ ∀ i, i < n → h.2 (cc + 1) i = f i
def frC (cc : Nat) (h h' : HP) : Prop := (∀ a, a ≠ cc → h'.1 a = h.1 a) ∧ ∀ a, a ≠ cc + 1 → h'.2 a = h.2 a
set_option maxHeartbeats 400000 in
theorem frC.rf {cc : Nat} {h : HP} : frC cc h h := ⟨fun _ _ => rfl, fun _ _ => rfl⟩
set_option maxHeartbeats 400000 in
theorem frC.tr {cc : Nat} {h h' h'' : HP} (a : frC cc h h') (b : frC cc h' h'') : frC cc h h'' := ⟨fun x hx => (b.1 x hx).trans (a.1 x hx), fun x hx => (b.2 x hx).trans (a.2 x hx)⟩
set_option maxHeartbeats 400000 in
theorem X_cempty (h : HP) (cc : Nat) (f : Nat → Int64) : ∃ h', f_Co_empty cc h = some h' ∧ CW h' cc 0 f ∧ frC cc h h' :=
  ⟨_, rfl, ⟨by omega, by simp [upI]; rfl, fun i hi => by omega⟩, ⟨fun a ha => by funext b; simp [upI, ha], fun a ha => rfl⟩⟩
set_option maxHeartbeats 400000 in
theorem X_cput {h : HP} {cc n : Nat} {f : Nat → Int64} (C : CW h cc n f) (hn : n < 160) (v : Int64) : ∃ h', f_Co_put cc h v = some h' ∧ CW h' cc (n + 1) (fun i => if i = n then v else f i) ∧ frC cc h h' := by
  unfold f_Co_put
  rw [C.2.1, if_neg (show ¬ (160 : Int32) ≤ nI n from nI_ge (b := 160) hn (by decide)), if_pos (inb_nI hn (by decide)), ix_nI (by omega)]
  refine ⟨_, rfl, ⟨by omega, ?_, fun i hi => ?_⟩, ⟨fun a ha => by funext b; simp [upI, upJ, ha], fun a ha => by funext b; simp [upI, upJ, ha]⟩⟩
  · rw [upI_s, if_pos rfl, upJ_1, C.2.1, nI_1]
  · show (upJ h (cc + 1) n v).2 (cc + 1) i = _
    simp only [upJ, true_and]
    split
    · rfl
    · exact C.2.2 i (by omega)
set_option maxHeartbeats 400000 in
theorem X_cat {h : HP} {cc n : Nat} {f : Nat → Int64} (C : CW h cc n f) {i : Nat} (hi : i < n) : f_Co_at cc h (nI i) = some (f i) := by
  have hn := C.1
  unfold f_Co_at
  rw [C.2.1, if_neg (nI_pos (by omega)), if_neg (nI_ge hi (by omega)), if_pos (inb_nI (show i < 160 by omega) (by decide)), ix_nI (by omega), C.2.2 i hi]
/-- the heap of the inner loop behind k steps -/
def shf (h : HP) (cc c : Nat) : Nat → HP
  | 0 => h
  | k + 1 => upJ (shf h cc c k) (cc + 1) (c - k) ((shf h cc c k).2 (cc + 1) (c - k - 1))
set_option maxHeartbeats 400000 in
theorem shf_1 (h : HP) (cc c : Nat) : ∀ k, (shf h cc c k).1 = h.1
  | 0 => rfl
  | k + 1 => shf_1 h cc c k
set_option maxHeartbeats 400000 in
theorem shf_ne (h : HP) (cc c : Nat) {a : Nat} (ha : a ≠ cc + 1) : ∀ k, (shf h cc c k).2 a = h.2 a
  | 0 => rfl
  | k + 1 => by
    have : (shf h cc c (k + 1)).2 a = (shf h cc c k).2 a := by funext b; simp [shf, upJ, ha]
    rw [this, shf_ne h cc c ha k]
set_option maxHeartbeats 400000 in
theorem shf_at (h : HP) (cc c : Nat) : ∀ k, k ≤ c → ∀ i, (shf h cc c k).2 (cc + 1) i = if c - k < i ∧ i ≤ c then h.2 (cc + 1) (i - 1) else h.2 (cc + 1) i
  | 0, _, i => by simp only [shf]; rw [if_neg (by omega)]
  | k + 1, hk, i => by
    have ih := shf_at h cc c k (by omega)
    have e : (shf h cc c (k + 1)).2 (cc + 1) i = if i = c - k then (shf h cc c k).2 (cc + 1) (c - k - 1) else (shf h cc c k).2 (cc + 1) i := by
      simp [shf, upJ]
    rw [e]
    by_cases hi : i = c - k
    · rw [if_pos hi, ih, if_neg (by omega), if_pos (by omega), hi]
    · rw [if_neg hi, ih]
      by_cases h1 : c - k < i ∧ i ≤ c
      · rw [if_pos h1, if_pos (by omega)]
      · rw [if_neg h1, if_neg (by omega)]
def k64 (x : Int64) : Int := x.toInt
set_option maxHeartbeats 400000 in
theorem X_sort1 {h : HP} {cc n c : Nat} {f : Nat → Int64} (C : CW h cc n f) (hc : c < n) : ∃ h', f_Co_sort_l20 cc h (nI c) (f c) (h, nI c) = some (.inl (h', nI (c + 1))) ∧ CW h' cc n (insK k64 f c (f c)) ∧ frC cc h h' := by
  have hn := C.1
  have hp := posK_le (key := k64) (f := f) (x := f c) c
  have up := posK_up (key := k64) (f := f) (x := f c) c
  have dn := posK_dn (key := k64) (f := f) (x := f c) c
  generalize hP : posK k64 f (f c) c = P at *
  refine ⟨upJ (shf h cc c (c - P)) (cc + 1) P (f c), ?_, ⟨C.1, ?_, fun i hi => ?_⟩, ⟨fun a ha => ?_, fun a ha => ?_⟩⟩
  · unfold f_Co_sort_l20
    have := loop_up (body := fun s : HP × Int32 => f_Co_sort_b20 cc s.1 (nI c) (f c) s.2) (t := Sum.inl (upJ (shf h cc c (c - P)) (cc + 1) P (f c), nI (c + 1))) (fun k => (shf h cc c k, nI (c - k))) (c - P) (fun k hk => ?_) ?_
    · exact this
    · unfold f_Co_sort_b20
      have e1 : nI (c - k) - 1 = nI (c - k - 1) := pk_sub (b := 1) (by omega)
      have e2 : nI (c - k) + (-1) = nI (c - (k + 1)) := by
        rw [show c - k = (c - (k + 1)) + 1 by omega]; exact pk_m1 _
      have e3 : (shf h cc c k).2 (cc + 1) (c - k - 1) = f (c - k - 1) := by
        rw [shf_at h cc c k (by omega), if_neg (by omega)]; exact C.2.2 _ (by omega)
      simp only [e1, e2, if_neg (nI_nle (show 0 < c - k by omega) (by omega)), if_pos (inb_nI (show c - k - 1 < 160 by omega) (show 160 < 2 ^ 31 by decide)), if_pos (inb_nI (show c - k < 160 by omega) (show 160 < 2 ^ 31 by decide)), ix_nI (show c - k - 1 < 2 ^ 31 by omega), ix_nI (show c - k < 2 ^ 31 by omega), e3]
      have h4 : ¬ lg_cmp (f (c - k - 1)) (f c) ≤ 0 := by
        rw [lg_cmp_le]
        have := up (c - k - 1) (by omega) (by omega)
        rw [Int64.le_iff_toInt_le]
        simp only [k64] at this
        omega
      rw [if_neg h4]
      show some (Sum.inl (upJ (shf h cc c k) (cc + 1) (c - k) (f (c - k - 1)), nI (c - (k + 1)))) = some (Sum.inl (shf h cc c (k + 1), nI (c - (k + 1))))
      simp only [shf, e3]
    · unfold f_Co_sort_b20
      have hcp : c - (c - P) = P := by omega
      simp only [hcp, if_pos (inb_nI (show P < 160 by omega) (show 160 < 2 ^ 31 by decide)), ix_nI (show P < 2 ^ 31 by omega), nI_1]
      by_cases h0 : P = 0
      · rw [h0, if_pos (by decide)]; rfl
      · have e1 : nI P - 1 = nI (P - 1) := pk_sub (b := 1) (by omega)
        have e3 : (shf h cc c (c - P)).2 (cc + 1) (P - 1) = f (P - 1) := by
          rw [shf_at h cc c (c - P) (by omega), if_neg (by omega)]; exact C.2.2 _ (by omega)
        simp only [if_neg (nI_nle (show 0 < P by omega) (by omega)), e1, if_pos (inb_nI (show P - 1 < 160 by omega) (show 160 < 2 ^ 31 by decide)), ix_nI (show P - 1 < 2 ^ 31 by omega), e3]
        have h4 : lg_cmp (f (P - 1)) (f c) ≤ 0 := by
          rw [lg_cmp_le]
          have := dn (by omega)
          rw [Int64.le_iff_toInt_le]
          simp only [k64] at this
          omega
        rw [if_pos h4]; rfl
  · show (shf h cc c (c - P)).1 cc 1 = _
    rw [shf_1]; exact C.2.1
  · have e : (upJ (shf h cc c (c - P)) (cc + 1) P (f c)).2 (cc + 1) i = if i = P then f c else (shf h cc c (c - P)).2 (cc + 1) i := by simp [upJ]
    rw [e, shf_at h cc c (c - P) (by omega)]
    unfold insK
    rw [hP]
    by_cases h1 : i < P
    · rw [if_pos h1, if_neg (by omega), if_neg (by omega)]; exact C.2.2 i hi
    · rw [if_neg h1]
      by_cases h2 : i = P
      · rw [if_pos h2, if_pos h2]
      · rw [if_neg h2, if_neg h2]
        by_cases h3 : i ≤ c
        · rw [if_pos (by omega), if_pos h3]; exact C.2.2 (i - 1) (by omega)
        · rw [if_neg (by omega), if_neg h3]; exact C.2.2 i hi
  · show (shf h cc c (c - P)).1 a = h.1 a
    rw [shf_1]
  · have e : (upJ (shf h cc c (c - P)) (cc + 1) P (f c)).2 a = (shf h cc c (c - P)).2 a := by funext b; simp [upJ, ha]
    rw [e, shf_ne h cc c ha]
set_option maxHeartbeats 400000 in
theorem insK_first {α : Type} (key : α → Int) (f : Nat → α) : insK key f 0 (f 0) = f := by
  funext i
  unfold insK
  rw [show posK key f (f 0) 0 = 0 from rfl]
  by_cases h : i = 0
  · subst h; simp
  · rw [if_neg (by omega), if_neg h, if_neg (by omega)]
set_option maxHeartbeats 400000 in
theorem X_sort {h : HP} {cc n : Nat} {f : Nat → Int64} (C : CW h cc n f) : ∃ h', f_Co_sort cc h = some h' ∧ CW h' cc n (srtK k64 f n) ∧ frC cc h h' := by
  have hn := C.1
  have st : ∀ c, c ≤ n → 1 ≤ c → ∃ h', (loop (fun s : HP × Int32 => f_Co_sort_b2 cc s.1 s.2) (h, nI 1) = loop (fun s : HP × Int32 => f_Co_sort_b2 cc s.1 s.2) (h', nI c)) ∧ CW h' cc n (srtK k64 f c) ∧ frC cc h h' := by
    intro c
    induction c with
    | zero => intro _ h; omega
    | succ c ih =>
      intro hc _
      rcases Nat.eq_zero_or_pos c with rfl | h0
      · refine ⟨h, rfl, ?_, frC.rf⟩
        simp only [srtK, insK_first]
        exact C
      · obtain ⟨h1, e1, C1, F1⟩ := ih (by omega) h0
        obtain ⟨h2, e2, C2, F2⟩ := X_sort1 C1 (show c < n by omega)
        refine ⟨h2, ?_, C2, F1.tr F2⟩
        rw [e1]
        apply loop_inl
        unfold f_Co_sort_b2
        simp only [C1.2.1, if_neg (nI_ge (show c < n by omega) (show n < 2 ^ 31 by omega)), if_pos (inb_nI (show c < 160 by omega) (show 160 < 2 ^ 31 by decide)), ix_nI (show c < 2 ^ 31 by omega), C1.2.2 c (show c < n by omega)]
        exact e2
  unfold f_Co_sort f_Co_sort_l2
  rcases Nat.eq_zero_or_pos n with rfl | h0
  · refine ⟨h, ?_, C, frC.rf⟩
    apply loop_inr
    unfold f_Co_sort_b2
    simp only [C.2.1, if_pos (show nI 0 ≤ 1 by decide)]
    rfl
  · obtain ⟨h1, e1, C1, F1⟩ := st n (Nat.le_refl n) h0
    refine ⟨h1, ?_, C1, F1⟩
    rw [show (1 : Int32) = nI 1 from rfl, e1]
    apply loop_inr
    unfold f_Co_sort_b2
    simp only [C1.2.1, if_pos (nle _)]
    rfl
