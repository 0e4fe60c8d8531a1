/-! the cover of a row: what it is, that it ends -/
set_option maxHeartbeats 400000 in
theorem cN_imp {p q : Nat → Bool} : ∀ n, (∀ i, i < n → p i = true → q i = true) → cN p n ≤ cN q n
  | 0, _ => Nat.le_refl 0
  | n + 1, h => by
    have ih := cN_imp n (fun i hi => h i (by omega))
    have h1 := h n (by omega)
    simp only [cN]
    cases hp : p n with
    | false => simp only [Bool.false_eq_true, if_false]; omega
    | true => rw [h1 hp]; simp only [if_true]; omega
set_option maxHeartbeats 400000 in
theorem cN_slt {p q : Nat → Bool} {j : Nat} : ∀ n, (∀ i, i < n → p i = true → q i = true) → j < n → q j = true → p j = false → cN p n < cN q n
  | 0, _, hj, _, _ => by omega
  | n + 1, h, hj, hq, hp => by
    simp only [cN]
    rcases (show j < n ∨ j = n by omega) with h1 | rfl
    · have ih := cN_slt n (fun i hi => h i (by omega)) h1 hq hp
      have h2 := h n (by omega)
      cases hp' : p n with
      | false => simp only [Bool.false_eq_true, if_false]; omega
      | true => rw [h2 hp']; simp only [if_true]; omega
    · have ih := cN_imp (p := p) (q := q) j (fun i hi => h i (by omega))
      rw [hp, hq]; simp only [Bool.false_eq_true, if_false, if_true]; omega
def lgS (w : Nat → Int32) (s : Nat) (pl : Int32) (k : Nat) (b : Option Nat) : Option Nat := if there w (1 - s) k pl then (match b with | none => some k | some j => if ep w (1 - s) k ≤ ep w (1 - s) j then some j else some k) else b
def lgI (w : Nat → Int32) (s r : Nat) (pl : Int32) (n : Nat) : Option Nat := fI (fun k b => if prt w s r k then lgS w s pl k b else b) n none
def lgB (w : Nat → Int32) (s r : Nat) (pl : Int32) : Option Nat := lgI w s r pl (nS w (1 - s))
def nxT (w : Nat → Int32) (s : Nat) (pl : Int32) (k : Nat) (x : Int32) : Int32 := if sp w (1 - s) k ≤ pl then x else if sp w (1 - s) k < x then sp w (1 - s) k else x
def nxI (w : Nat → Int32) (s r : Nat) (pl : Int32) (n : Nat) : Int32 := fI (fun k x => if prt w s r k then nxT w s pl k x else x) n (ep w s r)
def nxt (w : Nat → Int32) (s r : Nat) (pl : Int32) : Int32 := match lgB w s r pl with
  | none => nxI w s r pl (nS w (1 - s))
  | some j => if ep w (1 - s) j < ep w s r then ep w (1 - s) j else ep w s r
set_option maxHeartbeats 400000 in
theorem lgI_some {w : Nat → Int32} {s r : Nat} {pl : Int32} : ∀ {n j : Nat}, lgI w s r pl n = some j → j < n ∧ prt w s r j = true ∧ there w (1 - s) j pl = true
  | 0, j, h => by simp [lgI, fI] at h
  | n + 1, j, h => by
    have h' : (if prt w s r n then lgS w s pl n (lgI w s r pl n) else lgI w s r pl n) = some j := h
    by_cases hp : prt w s r n = true
    · rw [if_pos hp] at h'
      unfold lgS at h'
      by_cases ht : there w (1 - s) n pl = true
      · rw [if_pos ht] at h'
        cases hb : lgI w s r pl n with
        | none =>
          rw [hb] at h'
          simp only [Option.some.injEq] at h'
          subst h'
          exact ⟨by omega, hp, ht⟩
        | some i =>
          rw [hb] at h'
          obtain ⟨a, b, c⟩ := lgI_some hb
          simp only at h'
          split at h'
          · simp only [Option.some.injEq] at h'; subst h'; exact ⟨by omega, b, c⟩
          · simp only [Option.some.injEq] at h'; subst h'; exact ⟨by omega, hp, ht⟩
      · rw [if_neg ht] at h'
        obtain ⟨a, b, c⟩ := lgI_some h'
        exact ⟨by omega, b, c⟩
    · rw [if_neg hp] at h'
      obtain ⟨a, b, c⟩ := lgI_some h'
      exact ⟨by omega, b, c⟩
set_option maxHeartbeats 400000 in
theorem lgI_none {w : Nat → Int32} {s r : Nat} {pl : Int32} : ∀ {n : Nat}, lgI w s r pl n = none → ∀ k, k < n → prt w s r k = true → there w (1 - s) k pl = false
  | 0, _, k, hk, _ => by omega
  | n + 1, h, k, hk, hpk => by
    have h' : (if prt w s r n then lgS w s pl n (lgI w s r pl n) else lgI w s r pl n) = none := h
    by_cases hp : prt w s r n = true
    · rw [if_pos hp] at h'
      unfold lgS at h'
      by_cases ht : there w (1 - s) n pl = true
      · rw [if_pos ht] at h'
        cases hb : lgI w s r pl n with
        | none => rw [hb] at h'; cases h'
        | some i => rw [hb] at h'; simp only at h'; split at h' <;> cases h'
      · rw [if_neg ht] at h'
        rcases (show k < n ∨ k = n by omega) with h1 | rfl
        · exact lgI_none h' k h1 hpk
        · simpa using ht
    · rw [if_neg hp] at h'
      rcases (show k < n ∨ k = n by omega) with h1 | rfl
      · exact lgI_none h' k h1 hpk
      · exact absurd hpk hp
set_option maxHeartbeats 400000 in
theorem nxI_spec {w : Nat → Int32} {s r : Nat} {pl : Int32} : ∀ n, nxI w s r pl n = ep w s r ∨ ∃ k, k < n ∧ prt w s r k = true ∧ pl < sp w (1 - s) k ∧ nxI w s r pl n = sp w (1 - s) k
  | 0 => Or.inl rfl
  | n + 1 => by
    have ih := nxI_spec (w := w) (s := s) (r := r) (pl := pl) n
    have e : nxI w s r pl (n + 1) = if prt w s r n then nxT w s pl n (nxI w s r pl n) else nxI w s r pl n := rfl
    have lift : (nxI w s r pl n = ep w s r ∨ ∃ k, k < n + 1 ∧ prt w s r k = true ∧ pl < sp w (1 - s) k ∧ nxI w s r pl n = sp w (1 - s) k) := ih.imp id (fun ⟨k, a, b⟩ => ⟨k, by omega, b⟩)
    rw [e]
    by_cases hp : prt w s r n = true
    · rw [if_pos hp]
      unfold nxT
      by_cases a : sp w (1 - s) n ≤ pl
      · rw [if_pos a]; exact lift
      · rw [if_neg a]
        by_cases b : sp w (1 - s) n < nxI w s r pl n
        · rw [if_pos b]; exact Or.inr ⟨n, by omega, hp, Int32.not_le.mp a, rfl⟩
        · rw [if_neg b]; exact lift
    · rw [if_neg hp]; exact lift
set_option maxHeartbeats 400000 in
theorem nxI_le {w : Nat → Int32} {s r : Nat} {pl : Int32} : ∀ n, nxI w s r pl n ≤ ep w s r
  | 0 => Int32.le_refl _
  | n + 1 => by
    have ih := nxI_le (w := w) (s := s) (r := r) (pl := pl) n
    have e : nxI w s r pl (n + 1) = if prt w s r n then nxT w s pl n (nxI w s r pl n) else nxI w s r pl n := rfl
    rw [e]
    unfold nxT
    split
    · split
      · exact ih
      · split
        · rename_i b; exact Int32.le_trans (Int32.le_of_lt b) ih
        · exact ih
    · exact ih
set_option maxHeartbeats 400000 in
/-- a row's places lie apart, and partners share -/
theorem ep_int {w : Nat → Int32} (R : RowsOk w) {s r : Nat} (hs : s < 2) (hr : r < nS w s) : (ep w s r).toInt = if fld w s r 3 = fld w s r 2 then 2 * (fld w s r 3).toInt + 1 else 2 * (fld w s r 3).toInt := by
  have hb := ((R s hs).2.2 r hr).2.2
  unfold ep
  split
  · rw [Int32.toInt_add, Int32.toInt_mul]; simp [Int.bmod]; omega
  · rw [Int32.toInt_mul]; simp [Int.bmod]; omega
set_option maxHeartbeats 400000 in
theorem sp_lt_ep {w : Nat → Int32} (R : RowsOk w) {s r : Nat} (hs : s < 2) (hr : r < nS w s) : sp w s r < ep w s r := by
  have hb := ((R s hs).2.2 r hr).2.2
  rw [Int32.lt_iff_toInt_lt, sp_int R hs hr, ep_int R hs hr]
  split
  · rename_i e; rw [e]; omega
  · rename_i e
    have : (fld w s r 3).toInt ≠ (fld w s r 2).toInt := fun z => e (Int32.toInt_inj.mp z)
    omega
set_option maxHeartbeats 400000 in
theorem nobit {v k : Int32} (h : v &&& 2044 = v) (hk : k = 0 ∨ k = 1 ∨ k = 11 ∨ k = 12) : bit v k = false := by
  unfold bit
  rw [decide_eq_false_iff_not]
  intro e
  have e1 := congrArg (fun x : Int32 => x.toBitVec.getLsbD 0) e
  rcases hk with rfl | rfl | rfl | rfl
  · have e2 := congrArg (fun x : Int32 => x.toBitVec.getLsbD 0) h
    simp [Int32.toBitVec_and, Int32.toBitVec_shiftRight] at e1 e2
    rw [e2] at e1; cases e1
  · have e2 := congrArg (fun x : Int32 => x.toBitVec.getLsbD 1) h
    simp [Int32.toBitVec_and, Int32.toBitVec_shiftRight, BitVec.getElem_sshiftRight] at e1 e2
    rw [e2] at e1; cases e1
  · have e2 := congrArg (fun x : Int32 => x.toBitVec.getLsbD 11) h
    simp [Int32.toBitVec_and, Int32.toBitVec_shiftRight, BitVec.getElem_sshiftRight] at e1 e2
    rw [e2] at e1; cases e1
  · have e2 := congrArg (fun x : Int32 => x.toBitVec.getLsbD 12) h
    simp [Int32.toBitVec_and, Int32.toBitVec_shiftRight, BitVec.getElem_sshiftRight] at e1 e2
    rw [e2] at e1; cases e1
set_option maxHeartbeats 400000 in
theorem kK_share {s e t f : Int32} (h : ¬ (t < e ∧ s < f)) : kK s e t f = 0 ∨ kK s e t f = 1 ∨ kK s e t f = 11 ∨ kK s e t f = 12 := by
  unfold kK; grind
set_option maxHeartbeats 400000 in
theorem part_share {w : Nat → Int32} (hW : w 1 &&& 2044 = w 1) {l r : Nat} (h : part w l r = true) : sp w 1 r < ep w 0 l ∧ sp w 0 l < ep w 1 r := by
  by_cases hc : sp w 1 r < ep w 0 l ∧ sp w 0 l < ep w 1 r
  · exact hc
  · exfalso
    unfold part at h
    rw [nobit hW (kK_share hc), Bool.and_false] at h
    cases h
set_option maxHeartbeats 400000 in
theorem prt_share {w : Nat → Int32} (hW : w 1 &&& 2044 = w 1) {s r o : Nat} (hs : s < 2) (h : prt w s r o = true) : sp w (1 - s) o < ep w s r ∧ sp w s r < ep w (1 - s) o := by
  rcases (show s = 0 ∨ s = 1 by omega) with rfl | rfl
  · exact part_share hW h
  · have := part_share (l := o) (r := r) hW h
    exact ⟨this.2, this.1⟩
def aft (w : Nat → Int32) (s r : Nat) (pl : Int32) : Nat := cN (fun k => prt w s r k && decide (pl < ep w (1 - s) k)) (nS w (1 - s))
def mu (w : Nat → Int32) (s r : Nat) (pl : Int32) : Nat := 2 * aft w s r pl + (if lgB w s r pl = none then 1 else 0)
set_option maxHeartbeats 400000 in
theorem aft_mono {w : Nat → Int32} {s r : Nat} {a b : Int32} (h : a ≤ b) : aft w s r b ≤ aft w s r a := cN_imp _ (fun i _ hp => by
  simp only [Bool.and_eq_true, decide_eq_true_eq] at hp ⊢
  exact ⟨hp.1, Int32.lt_of_le_of_lt h hp.2⟩)
set_option maxHeartbeats 400000 in
theorem mu_pos {w : Nat → Int32} {s r : Nat} {pl : Int32} : 1 ≤ mu w s r pl := by
  unfold mu
  cases hb : lgB w s r pl with
  | none => simp
  | some j =>
    obtain ⟨a, b, c⟩ := lgI_some hb
    have : 0 < aft w s r pl := by
      unfold aft
      have h1 := cN_lt (p := fun k => prt w s r k && decide (pl < ep w (1 - s) k)) a (by
        simp only [there, Bool.and_eq_true, decide_eq_true_eq] at c ⊢
        exact ⟨b, c.2⟩)
      omega
    simp; omega
set_option maxHeartbeats 400000 in
theorem mu_step {w : Nat → Int32} (R : RowsOk w) {s r : Nat} (hs : s < 2) {pl : Int32} (h1 : pl < ep w s r) (h2 : nxt w s r pl < ep w s r) : pl < nxt w s r pl ∧ mu w s r (nxt w s r pl) < mu w s r pl := by
  cases hb : lgB w s r pl with
  | some j =>
    obtain ⟨a, b, c⟩ := lgI_some hb
    simp only [there, Bool.and_eq_true, decide_eq_true_eq] at c
    have e : nxt w s r pl = ep w (1 - s) j := by
      unfold nxt at h2 ⊢
      rw [hb] at h2 ⊢
      simp only at h2 ⊢
      split
      · rfl
      · rename_i z; rw [if_neg z] at h2; exact absurd h2 (by grind)
    rw [e]
    refine ⟨c.2, ?_⟩
    have hl : aft w s r (ep w (1 - s) j) < aft w s r pl := cN_slt (j := j) _ (fun i _ hp => by
      simp only [Bool.and_eq_true, decide_eq_true_eq] at hp ⊢
      exact ⟨hp.1, Int32.lt_trans c.2 hp.2⟩) a (by simp only [Bool.and_eq_true, decide_eq_true_eq]; exact ⟨b, c.2⟩) (by
      simp only [Bool.and_eq_false_iff, decide_eq_false_iff_not]; exact Or.inr (Int32.lt_irrefl))
    unfold mu
    rw [hb]
    split <;> simp <;> omega
  | none =>
    have e : nxt w s r pl = nxI w s r pl (nS w (1 - s)) := by unfold nxt; rw [hb]
    rcases nxI_spec (w := w) (s := s) (r := r) (pl := pl) (nS w (1 - s)) with h3 | ⟨k, hk, hp, hlt, h3⟩
    · rw [e, h3] at h2; exact absurd h2 (by grind)
    · rw [e, h3]
      refine ⟨hlt, ?_⟩
      have hm := aft_mono (w := w) (s := s) (r := r) (Int32.le_of_lt hlt)
      have hne : lgB w s r (sp w (1 - s) k) ≠ none := by
        intro hn
        have := lgI_none hn k hk hp
        simp only [there, Bool.and_eq_false_iff, decide_eq_false_iff_not] at this
        rcases this with z | z
        · exact z (Int32.le_refl _)
        · exact z (sp_lt_ep R (by omega) hk)
      unfold mu
      rw [if_neg hne, if_pos hb]
      omega
def itn (w : Nat → Int32) (s r : Nat) : Nat → Int32 → Int32
  | 0, pl => pl
  | k + 1, pl => itn w s r k (nxt w s r pl)
set_option maxHeartbeats 400000 in
theorem cover_ends {w : Nat → Int32} (R : RowsOk w) {s r : Nat} (hs : s < 2) : ∀ m pl, (pl < ep w s r → mu w s r pl ≤ m) → ∃ N, N ≤ m ∧ (∀ k, k < N → itn w s r k pl < ep w s r) ∧ ep w s r ≤ itn w s r N pl := by
  intro m
  induction m with
  | zero =>
    intro pl h
    refine ⟨0, Nat.le_refl 0, fun k hk => by omega, ?_⟩
    by_cases h1 : pl < ep w s r
    · have := h h1; have := mu_pos (w := w) (s := s) (r := r) (pl := pl); omega
    · exact Int32.not_lt.mp h1
  | succ m ih =>
    intro pl h
    by_cases h1 : pl < ep w s r
    · obtain ⟨N, a, b, c⟩ := ih (nxt w s r pl) (fun h2 => by
        have := (mu_step R hs h1 h2).2; have := h h1; omega)
      refine ⟨N + 1, by omega, fun k hk => ?_, c⟩
      cases k with
      | zero => exact h1
      | succ k => exact b k (by omega)
    · exact ⟨0, by omega, fun k hk => by omega, Int32.not_lt.mp h1⟩
def plc (w : Nat → Int32) (s r : Nat) : Nat → Int32
  | 0 => sp w s r
  | k + 1 => nxt w s r (plc w s r k)
set_option maxHeartbeats 400000 in
theorem itn_succ (w : Nat → Int32) (s r : Nat) : ∀ k pl, itn w s r (k + 1) pl = nxt w s r (itn w s r k pl)
  | 0, _ => rfl
  | k + 1, pl => itn_succ w s r k (nxt w s r pl)
set_option maxHeartbeats 400000 in
theorem plc_itn (w : Nat → Int32) (s r : Nat) : ∀ k, plc w s r k = itn w s r k (sp w s r)
  | 0 => rfl
  | k + 1 => by rw [itn_succ, ← plc_itn w s r k]; rfl
set_option maxHeartbeats 400000 in
theorem cover_N {w : Nat → Int32} (R : RowsOk w) {s r : Nat} (hs : s < 2) : ∃ N, N ≤ 81 ∧ (∀ k, k < N → plc w s r k < ep w s r) ∧ ep w s r ≤ plc w s r N := by
  obtain ⟨N, a, b, c⟩ := cover_ends R (r := r) hs 81 (sp w s r) (fun _ => by
    have h1 := cN_le (fun k => prt w s r k && decide (sp w s r < ep w (1 - s) k)) (nS w (1 - s))
    have h2 := (R (1 - s) (by omega)).2.1
    unfold mu aft
    split <;> omega)
  exact ⟨N, a, fun k hk => by rw [plc_itn]; exact b k hk, by rw [plc_itn]; exact c⟩
