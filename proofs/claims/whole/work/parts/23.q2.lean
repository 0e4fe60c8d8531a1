def fstN (p : Nat → Bool) : Nat → Option Nat
  | 0 => none
  | n + 1 => match fstN p n with
    | some i => some i
    | none => if p n then some n else none
set_option maxHeartbeats 400000 in
theorem fstN_no {p : Nat → Bool} : ∀ {n : Nat}, fstN p n = none → ∀ j, j < n → p j = false
  | 0, _, j, hj => by omega
  | n + 1, h, j, hj => by
    unfold fstN at h
    cases hf : fstN p n with
    | some k => rw [hf] at h; cases h
    | none =>
      rw [hf] at h
      simp only at h
      split at h
      · cases h
      · rename_i hp
        rcases (show j < n ∨ j = n by omega) with h1 | rfl
        · exact fstN_no hf j h1
        · simpa using hp
set_option maxHeartbeats 400000 in
theorem fstN_some {p : Nat → Bool} : ∀ {n i : Nat}, fstN p n = some i → i < n ∧ p i = true ∧ ∀ j, j < i → p j = false
  | 0, i, h => by simp [fstN] at h
  | n + 1, i, h => by
    unfold fstN at h
    cases hf : fstN p n with
    | some k =>
      rw [hf] at h
      simp only [Option.some.injEq] at h
      subst h
      obtain ⟨h1, h2, h3⟩ := fstN_some hf
      exact ⟨by omega, h2, h3⟩
    | none =>
      rw [hf] at h
      simp only at h
      split at h
      · rename_i hp
        simp only [Option.some.injEq] at h
        subst h
        exact ⟨by omega, hp, fun j hj => fstN_no hf j hj⟩
      · cases h
set_option maxHeartbeats 400000 in
theorem loop_find {T : Type} {body : Int32 → Option (Int32 ⊕ T)} (n : Nat) (p : Nat → Bool) (t0 : T) (f : Nat → T) (hs : ∀ i, i < n → body (nI i) = if p i then some (.inr (f i)) else some (.inl (nI (i + 1)))) (he : body (nI n) = some (.inr t0)) : loop body 0 = some (match fstN p n with | some i => f i | none => t0) := by
  cases hf : fstN p n with
  | none =>
    have h0 := fstN_no hf
    exact loop_up (fun i => nI i) n (fun i hi => by rw [hs i hi, h0 i hi]; rfl) he
  | some k =>
    obtain ⟨h1, h2, h3⟩ := fstN_some hf
    exact loop_up (fun i => nI i) k (fun i hi => by rw [hs i (by omega), h3 i hi]; rfl) (by rw [hs k h1, h2]; rfl)
set_option maxHeartbeats 400000 in
theorem cN_pos {p : Nat → Bool} : ∀ n, 0 < cN p n ↔ fstN p n ≠ none
  | 0 => by simp [cN, fstN]
  | n + 1 => by
    have ih := cN_pos (p := p) n
    unfold cN fstN
    cases hf : fstN p n with
    | some k => rw [hf] at ih; simp at ih ⊢; omega
    | none => rw [hf] at ih; simp at ih ⊢; split <;> simp_all
def cnst (p : Nat → Bool) (i : Nat) (x : Int32) : Int32 := if p i then x + 1 else x
set_option maxHeartbeats 400000 in
theorem cnst_cN (p : Nat → Bool) : ∀ n, fI (cnst p) n 0 = nI (cN p n)
  | 0 => rfl
  | n + 1 => by
    simp only [fI, cN, cnst_cN p n, cnst]
    split
    · exact nI_1 _
    · rfl
set_option maxHeartbeats 400000 in
theorem many_ix3 {s : Nat} (hs : s < 2) : inb (3 - nI s) 4100 ∧ ix (3 - nI s) = 2 + (1 - s) := by
  have e2 : 3 - nI s = nI (2 + (1 - s)) := by
    rcases (show s = 0 ∨ s = 1 by omega) with rfl | rfl <;> rfl
  exact ⟨inbn e2 (by omega) (by omega), ixn e2 (by omega)⟩
set_option maxHeartbeats 400000 in
theorem M_partners {m : HP} {w : Nat → Int32} (hw : m.1 1 = w) (R : RowsOk w) {s r : Nat} (hs : s < 2) (hr : r < nS w s) : f_Mo_partners 0 m (nI s) (nI r) = some (nI (cN (prt w s r) (nS w (1 - s)))) := by
  have hn := (R (1 - s) (by omega)).2.1
  have hn2 := (R s hs).2.1
  rw [← cnst_cN]
  unfold f_Mo_partners f_Mo_partners_l5
  refine loop_for (nS w (1 - s)) (cnst (prt w s r)) 0 _ (fun i x hi => ?_) ?_
  · unfold f_Mo_partners_b5
    simp only [if_pos (many_ix3 hs).1, (many_ix3 hs).2, Nat.zero_add, hw, (R (1 - s) (by omega)).1, if_neg (ngt hi hn), M_prt hs (show r < 40 by omega) (show i < 40 by omega), Option.bind_some, nI_1, Int32.add_zero, cnst]
    split <;> rfl
  · unfold f_Mo_partners_b5
    simp only [if_pos (many_ix3 hs).1, (many_ix3 hs).2, Nat.zero_add, hw, (R (1 - s) (by omega)).1, if_pos (nle _)]
    rfl
set_option maxHeartbeats 400000 in
theorem X_countPartners {h : HP} {w : Nat → Int32} (V : SV h 1 w) {s r : Nat} (hs : s < 2) (hr : r < nS w s) : f_St_countPartners 1 h (nI s) (nI r) = some (nI (cN (prt w s r) (nS w (1 - s)))) := by
  have V1 := V.rv (s := 1 - s) (by omega)
  have hn := V1.1
  rw [← cnst_cN]
  unfold f_St_countPartners f_St_countPartners_l17
  rw [X_rowsOf (s := 1 - s) (by omega) (one_sub hs)]
  simp only [Option.bind_some, V1.2.1]
  refine loop_for (nS w (1 - s)) (cnst (prt w s r)) 0 _ (fun i x hi => ?_) ?_
  · unfold f_St_countPartners_b17
    simp only [if_neg (ngt hi hn), X_prt V hs hr hi, Option.bind_some, nI_1, cnst]
    split <;> rfl
  · unfold f_St_countPartners_b17
    simp only [if_pos (nle _)]
    rfl
set_option maxHeartbeats 400000 in
theorem X_hasPartner {h : HP} {w : Nat → Int32} (V : SV h 1 w) {s r : Nat} (hs : s < 2) (hr : r < nS w s) : f_St_hasPartner 1 h (nI s) (nI r) = some (if 0 < cN (prt w s r) (nS w (1 - s)) then 1 else 0) := by
  have V1 := V.rv (s := 1 - s) (by omega)
  have hn := V1.1
  unfold f_St_hasPartner f_St_hasPartner_l14
  rw [X_rowsOf (s := 1 - s) (by omega) (one_sub hs)]
  simp only [Option.bind_some, V1.2.1]
  refine Eq.trans (loop_find (nS w (1 - s)) (prt w s r) (0 : Int32) (fun _ => 1) (fun i hi => ?_) ?_) ?_
  · unfold f_St_hasPartner_b14
    simp only [if_neg (ngt hi hn), X_prt V hs hr hi, Option.bind_some, nI_1]
    cases prt w s r i <;> rfl
  · unfold f_St_hasPartner_b14
    simp only [if_pos (nle _)]
    rfl
  · have := cN_pos (p := prt w s r) (nS w (1 - s))
    cases hf : fstN (prt w s r) (nS w (1 - s)) with
    | none => rw [hf] at this; rw [if_neg (by simpa using this)]
    | some k => rw [hf] at this; rw [if_pos (by simpa using this)]
