/-! the rows of a key in the order of a place, then of their number -/
def pN (x : Int32) : Nat := (x.toInt + 2000000).toNat
def cdN (pl : Nat → Int32) (o : Nat) : Nat := pN (pl o) * 64 + o
set_option maxHeartbeats 400000 in
theorem pl_nI {x : Int32} (h1 : -2000000 ≤ x.toInt) (h2 : x.toInt ≤ 2000001) : x + 2000000 = nI (pN x) := by
  refine Int32.toInt_inj.mp ?_
  unfold pN
  rw [nI_toInt (by omega), Int32.toInt_add]
  simp only [Int.bmod, show (2000000 : Int32).toInt = 2000000 from rfl]
  omega
set_option maxHeartbeats 400000 in
theorem cod_lN {x : Int32} {o : Nat} (h1 : -2000000 ≤ x.toInt) (h2 : x.toInt ≤ 2000001) (ho : o < 64) : (Int32.toInt64 (x + 2000000)) <<< (Int32.toInt64 6 &&& 63) + Int32.toInt64 (nI o) = lN (pN x * 64 + o) := by
  have : pN x < 2 ^ 31 := by unfold pN; omega
  rw [pl_nI h1 h2, lN_of this, lN_shl, lN_of (by omega), lN_add]
set_option maxHeartbeats 400000 in
theorem sp_rng {w : Nat → Int32} (R : RowsOk w) {s r : Nat} (hs : s < 2) (hr : r < nS w s) : -2000000 ≤ (sp w s r).toInt ∧ (sp w s r).toInt < (ep w s r).toInt ∧ (ep w s r).toInt ≤ 2000001 := by
  obtain ⟨-, -, a, b, c⟩ := (R s hs).2.2 r hr
  have h1 := Int32.lt_iff_toInt_lt.mp (sp_lt_ep R hs hr)
  have h2 := ep_int R hs hr
  have h3 : (sp w s r).toInt = 2 * (fld w s r 2).toInt := by
    unfold sp
    rw [Int32.toInt_mul]
    simp only [Int.bmod, show (2 : Int32).toInt = 2 from rfl]
    omega
  refine ⟨by omega, h1, ?_⟩
  rw [h2]; split <;> omega
set_option maxHeartbeats 400000 in
/-- one at most: a count of at most one -/
theorem cN_two {p : Nat → Bool} {i j n : Nat} (h : i < j) (hj : j < n) (pi : p i = true) (pj : p j = true) : 2 ≤ cN p n := by
  have a := cN_lt h pi
  have b := cN_lt hj pj
  omega
set_option maxHeartbeats 400000 in
theorem cN_one {p : Nat → Bool} : ∀ n, (∀ i j, i < n → j < n → p i = true → p j = true → i = j) → cN p n ≤ 1
  | 0, _ => by simp [cN]
  | n + 1, h => by
    have ih := cN_one n (fun i j a b => h i j (by omega) (by omega))
    simp only [cN]
    by_cases z : p n = true
    · rw [if_pos z]
      rcases Nat.eq_zero_or_pos (cN p n) with y | y
      · omega
      · obtain ⟨k, hk, pk, _⟩ := cN_sur (p := p) (c := 0) (n := n) y
        have := h k n (by omega) (by omega) pk z
        omega
    · rw [if_neg z]; omega
def RL (h : HP) (n : Nat) (q : Nat → Nat) (p : Nat → Bool) (pl : Nat → Int32) (N : Nat) : Prop := CW h 32 n (fun i => lN (cdN pl (q i))) ∧ (∀ i, i < n → q i < N ∧ p (q i) = true) ∧ (∀ i j, i < j → j < n → cdN pl (q i) < cdN pl (q j)) ∧ ∀ o, o < N → p o = true → ∃ i, i < n ∧ q i = o
set_option maxHeartbeats 400000 in
theorem RL_sort {h : HP} {p : Nat → Bool} {pl : Nat → Int32} {N : Nat} (hN : N ≤ 40) (hb : ∀ o, o < N → pN (pl o) < 2 ^ 31) (C : CW h 32 (cN p N) (fun i => lN (cdN pl (nth p i)))) : ∃ h' q, f_Co_sort 32 h = some h' ∧ RL h' (cN p N) q p pl N ∧ frC 32 h h' := by
  obtain ⟨h', e, W, F⟩ := X_sort C
  generalize hn : cN p N = n at *
  generalize hf : (fun i => lN (cdN pl (nth p i))) = f at *
  have fe : ∀ i, f i = lN (cdN pl (nth p i)) := fun i => by rw [← hf]
  have nt : ∀ i, i < n → nth p i < N ∧ p (nth p i) = true ∧ cN p (nth p i) = i := by
    intro i hi
    rw [← hn] at hi
    obtain ⟨k, hk, pk, ek⟩ := cN_sur hi
    rw [← ek, nth_at pk]; exact ⟨hk, pk, rfl⟩
  have ck : ∀ o, o < N → k64 (lN (cdN pl o)) = (cdN pl o : Int) := fun o ho => by
    have := hb o ho
    unfold k64; rw [pk_lT (by unfold cdN; omega)]
  have ci : ∀ a b, a < N → b < N → cdN pl a = cdN pl b → a = b := by
    intro a b ha hb' h; unfold cdN at h; omega
  -- each sorted code is a row's
  have ex : ∀ i, ∃ o, i < n → o < N ∧ p o = true ∧ srtK k64 f n i = lN (cdN pl o) := by
    intro i
    by_cases hi : i < n
    · obtain ⟨j, hj, ej⟩ := (srtK_mem (key := k64) (f := f) n (k64 (srtK k64 f n i))).mp ⟨i, hi, rfl⟩
      have := Int64.toInt_inj.mp ej
      exact ⟨nth p j, fun _ => ⟨(nt j hj).1, (nt j hj).2.1, by rw [← this, fe]⟩⟩
    · exact ⟨0, fun z => absurd z hi⟩
  refine ⟨h', fun i => Classical.choose (ex i), e, ⟨⟨W.1, W.2.1, fun i hi => ?_⟩, fun i hi => ?_, fun i j hij hj => ?_, fun o ho po => ?_⟩, F⟩
  · rw [W.2.2 i hi]; exact (Classical.choose_spec (ex i) hi).2.2
  · have s := Classical.choose_spec (ex i) hi
    exact ⟨s.1, s.2.1⟩
  · have si := Classical.choose_spec (ex i) (by omega)
    have sj := Classical.choose_spec (ex j) hj
    have le := srtK_srt (key := k64) (f := f) n i j hij hj
    rw [si.2.2, sj.2.2, ck _ si.1, ck _ sj.1] at le
    show cdN pl (Classical.choose (ex i)) < cdN pl (Classical.choose (ex j))
    rcases Nat.lt_or_ge (cdN pl (Classical.choose (ex i))) (cdN pl (Classical.choose (ex j))) with z | z
    · exact z
    · exfalso
      have eq : cdN pl (Classical.choose (ex i)) = cdN pl (Classical.choose (ex j)) := by omega
      have c1 := srtK_cnt (key := k64) (f := f) (fun x => decide (x = lN (cdN pl (Classical.choose (ex j))))) n
      have c2 := cN_two (p := fun t => decide (srtK k64 f n t = lN (cdN pl (Classical.choose (ex j))))) hij hj (decide_eq_true (by rw [si.2.2, eq])) (decide_eq_true sj.2.2)
      have c3 := cN_one (p := fun t => decide (f t = lN (cdN pl (Classical.choose (ex j))))) n (fun a b ha hb' pa pb => by
        have ea := of_decide_eq_true pa
        have eb := of_decide_eq_true pb
        have e1 : k64 (f a) = k64 (f b) := by rw [ea, eb]
        rw [fe, fe, ck _ (nt a ha).1, ck _ (nt b hb').1] at e1
        have e2 := ci _ _ (nt a ha).1 (nt b hb').1 (by omega)
        rw [← (nt a ha).2.2, ← (nt b hb').2.2, e2])
      omega
  · have hc : cN p o < n := by rw [← hn]; exact cN_lt ho po
    obtain ⟨i, hi, ei⟩ := (srtK_mem (key := k64) (f := f) n (k64 (f (cN p o)))).mpr ⟨_, hc, rfl⟩
    refine ⟨i, hi, ?_⟩
    have s := Classical.choose_spec (ex i) hi
    rw [s.2.2, ck _ s.1, fe, nth_at po, ck _ ho] at ei
    have ej : cdN pl (Classical.choose (ex i)) = cdN pl o := Int.ofNat_inj.mp ei
    exact ci _ _ s.1 ho ej
