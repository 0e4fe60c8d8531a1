/-! the least of the rows that are let -/
def mnst (ok : Nat → Bool) (pl : Nat → Int32) (i : Nat) (x : Int32) : Int32 := if ok i then (if x = -1 then nI i else if pl (ix x) ≤ pl i then x else nI i) else x
set_option maxHeartbeats 400000 in
theorem mn_spec (ok : Nat → Bool) (pl : Nat → Int32) : ∀ N, N < 2 ^ 31 → (fI (mnst ok pl) N (-1) = -1 ∧ ∀ o, o < N → ok o = false) ∨ ∃ o, o < N ∧ fI (mnst ok pl) N (-1) = nI o ∧ ok o = true ∧ ∀ o', o' < N → ok o' = true → (pl o < pl o' ∨ (pl o = pl o' ∧ o ≤ o'))
  | 0, _ => Or.inl ⟨rfl, fun o h => by omega⟩
  | N + 1, hN => by
    simp only [fI]
    generalize hx : fI (mnst ok pl) N (-1) = x
    have ih := mn_spec ok pl N (by omega)
    rw [hx] at ih
    unfold mnst
    by_cases k : ok N = true
    · rw [if_pos k]
      rcases ih with ⟨e, no⟩ | ⟨o, ho, e, k2, le⟩
      · refine Or.inr ⟨N, by omega, by rw [if_pos e], k, fun o' h1 h2 => ?_⟩
        rcases (show o' < N ∨ o' = N by omega) with z | rfl
        · rw [no o' z] at h2; cases h2
        · exact Or.inr ⟨rfl, Nat.le_refl _⟩
      · rw [e, if_neg (nI_m1 (by omega)), ix_nI (by omega)]
        by_cases z : pl o ≤ pl N
        · refine Or.inr ⟨o, by omega, by rw [if_pos z], k2, fun o' h1 h2 => ?_⟩
          rcases (show o' < N ∨ o' = N by omega) with y | rfl
          · exact le o' y h2
          · rcases Int32.lt_or_eq_of_le z with y | y
            · exact Or.inl y
            · exact Or.inr ⟨y, by omega⟩
        · have zl : pl N < pl o := Int32.not_le.mp z
          refine Or.inr ⟨N, by omega, by rw [if_neg z], k, fun o' h1 h2 => ?_⟩
          rcases (show o' < N ∨ o' = N by omega) with y | rfl
          · rcases le o' y h2 with q | ⟨q, _⟩
            · exact Or.inl (Int32.lt_trans zl q)
            · exact Or.inl (q ▸ zl)
          · exact Or.inr ⟨rfl, Nat.le_refl _⟩
    · rw [if_neg k]
      rcases ih with ⟨e, no⟩ | ⟨o, ho, e, k2, le⟩
      · refine Or.inl ⟨e, fun o h => ?_⟩
        rcases (show o < N ∨ o = N by omega) with z | rfl
        · exact no o z
        · exact Bool.eq_false_iff.mpr k
      · refine Or.inr ⟨o, by omega, e, k2, fun o' h1 h2 => ?_⟩
        rcases (show o' < N ∨ o' = N by omega) with y | rfl
        · exact le o' y h2
        · exact absurd h2 k
set_option maxHeartbeats 400000 in
/-- a row put behind the others -/
theorem CW_row {h : HP} {p : Nat → Bool} {pl : Nat → Int32} {i : Nat} (C : CW h 32 (cN p i) (fun t => lN (cdN pl (nth p t)))) (hi : i < 160) (pi : p i = true) : ∃ h', f_Co_put 32 h (lN (cdN pl i)) = some h' ∧ CW h' 32 (cN p (i + 1)) (fun t => lN (cdN pl (nth p t))) ∧ frC 32 h h' := by
  have hc := cN_le p i
  obtain ⟨h', e, W, F⟩ := X_cput C (by omega) (lN (cdN pl i))
  refine ⟨h', e, ?_, F⟩
  have en : cN p (i + 1) = cN p i + 1 := by simp only [cN, pi, if_true]
  rw [en]
  refine ⟨W.1, W.2.1, fun t ht => ?_⟩
  rw [W.2.2 t ht]
  show (if t = cN p i then lN (cdN pl i) else lN (cdN pl (nth p t))) = lN (cdN pl (nth p t))
  by_cases z : t = cN p i
  · rw [if_pos z, z, nth_at pi]
  · rw [if_neg z]
set_option maxHeartbeats 400000 in
theorem CW_skip {h : HP} {p : Nat → Bool} {f : Nat → Int64} {i : Nat} (C : CW h 32 (cN p i) f) (pi : p i = false) : CW h 32 (cN p (i + 1)) f := by
  have en : cN p (i + 1) = cN p i := by simp [cN, pi]
  rw [en]; exact C
