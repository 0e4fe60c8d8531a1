/-! sweep: the rows' events as both sides take them in -/
def fE (n0 k : Nat) : Nat := if k < 2 * n0 then 2 * (k / 2) + 1 - k % 2 else 2 * (40 + (k - 2 * n0) / 2) + 1 - k % 2
set_option maxHeartbeats 400000 in
theorem fE_at {n0 s r d : Nat} (hs : s < 2) (hr : s = 0 → r < n0) (hd : d < 2) : fE n0 (2 * (n0 * s + r) + d) = 2 * (40 * s + r) + 1 - d := by
  unfold fE
  rcases (show s = 0 ∨ s = 1 by omega) with z | z
  · subst z
    have := hr rfl
    rw [Nat.mul_zero, Nat.zero_add, if_pos (by omega)]; omega
  · subst z
    rw [Nat.mul_one, if_neg (by omega)]; omega
section SW
variable {h m : HP} {w : Nat → Int32} {s : Nat}
set_option maxHeartbeats 400000 in
theorem fE_vE (R : RowsOk w) {k : Nat} (hk : k < 2 * (nS w 0 + nS w 1)) : vE w (fE (nS w 0) k) := by
  have n0 := (R 0 (by omega)).2.1
  have n1 := (R 1 (by omega)).2.1
  unfold vE fE
  by_cases z : k < 2 * nS w 0
  · rw [if_pos z]
    have e1 : sE (2 * (k / 2) + 1 - k % 2) = 0 := by unfold sE; omega
    have e2 : rE (2 * (k / 2) + 1 - k % 2) = k / 2 := by unfold rE; omega
    rw [e1, e2]; omega
  · rw [if_neg z]
    have e1 : sE (2 * (40 + (k - 2 * nS w 0) / 2) + 1 - k % 2) = 1 := by unfold sE; omega
    have e2 : rE (2 * (40 + (k - 2 * nS w 0) / 2) + 1 - k % 2) = (k - 2 * nS w 0) / 2 := by unfold rE; omega
    rw [e1, e2]; omega
set_option maxHeartbeats 400000 in
theorem fE_inj (R : RowsOk w) {a b : Nat} (ha : a < 2 * (nS w 0 + nS w 1)) (hb : b < 2 * (nS w 0 + nS w 1)) (h : fE (nS w 0) a = fE (nS w 0) b) : a = b := by
  have n0 := (R 0 (by omega)).2.1
  have n1 := (R 1 (by omega)).2.1
  unfold fE at h
  by_cases z : a < 2 * nS w 0
  · rw [if_pos z] at h
    by_cases y : b < 2 * nS w 0
    · rw [if_pos y] at h; omega
    · rw [if_neg y] at h; omega
  · rw [if_neg z] at h
    by_cases y : b < 2 * nS w 0
    · rw [if_pos y] at h; omega
    · rw [if_neg y] at h; omega
noncomputable def EE (w : Nat → Int32) : Nat → Nat := srtK (kE w) (fE (nS w 0)) (2 * (nS w 0 + nS w 1))
set_option maxHeartbeats 400000 in
theorem EE_v (R : RowsOk w) {k : Nat} (hk : k < 2 * (nS w 0 + nS w 1)) : vE w (EE w k) := srtK_all (N := 2 * (nS w 0 + nS w 1)) (fun i hi => fE_vE R hi) _ (Nat.le_refl _) k hk
set_option maxHeartbeats 400000 in
theorem EE_inj (R : RowsOk w) {a b : Nat} (ha : a < 2 * (nS w 0 + nS w 1)) (hb : b < 2 * (nS w 0 + nS w 1)) (e : EE w a = EE w b) : a = b := by
  have main : ∀ i j, i < j → j < 2 * (nS w 0 + nS w 1) → EE w i ≠ EE w j := by
    intro i j hij hj e
    have c1 := srtK_cnt (key := kE w) (f := fE (nS w 0)) (fun x => decide (x = EE w j)) (2 * (nS w 0 + nS w 1))
    have c2 := cN_two (p := fun t => decide (EE w t = EE w j)) hij hj (decide_eq_true e) (decide_eq_true rfl)
    have c3 := cN_one (p := fun t => decide (fE (nS w 0) t = EE w j)) (2 * (nS w 0 + nS w 1)) (fun a b ha hb pa pb => fE_inj R ha hb ((of_decide_eq_true pa).trans (of_decide_eq_true pb).symm))
    have c4 : cN (fun t => decide (EE w t = EE w j)) (2 * (nS w 0 + nS w 1)) = cN (fun i => decide (srtK (kE w) (fE (nS w 0)) (2 * (nS w 0 + nS w 1)) i = EE w j)) (2 * (nS w 0 + nS w 1)) := rfl
    omega
  rcases Nat.lt_trichotomy a b with z | z | z
  · exact absurd e (main a b z hb)
  · exact z
  · exact absurd e.symm (main b a z ha)
set_option maxHeartbeats 400000 in
theorem EE_mem (R : RowsOk w) {j : Nat} (hj : j < 2 * (nS w 0 + nS w 1)) : ∃ i, i < 2 * (nS w 0 + nS w 1) ∧ EE w i = fE (nS w 0) j := by
  obtain ⟨i, hi, e⟩ := (srtK_mem (key := kE w) (f := fE (nS w 0)) (2 * (nS w 0 + nS w 1)) (kE w (fE (nS w 0) j))).mpr ⟨j, hj, rfl⟩
  refine ⟨i, hi, ?_⟩
  have v1 := EE_v R hi
  have v2 := fE_vE R hj
  have e' : kE w (EE w i) = kE w (fE (nS w 0) j) := e
  rw [(kE_eq R v1.1 v1.2).1, (kE_eq R v2.1 v2.2).1] at e'
  exact evC_inj v1.1 v2.1 (Int.ofNat_inj.mp e')
set_option maxHeartbeats 400000 in
theorem EE_srt {i j : Nat} (hij : i < j) (hj : j < 2 * (nS w 0 + nS w 1)) : kE w (EE w i) ≤ kE w (EE w j) := srtK_srt (key := kE w) (f := fE (nS w 0)) (2 * (nS w 0 + nS w 1)) i j hij hj
set_option maxHeartbeats 400000 in
theorem EE_evs (R : RowsOk w) : EVs w (2 * (nS w 0 + nS w 1)) (EE w) := by
  have n0 := (R 0 (by omega)).2.1
  have n1 := (R 1 (by omega)).2.1
  refine ⟨fun k hk => EE_v R hk, fun a b ha hb e => EE_inj R ha hb e, fun k hk e => ?_⟩
  have v := EE_v R hk
  have cd := ev_code v.1
  have hs := sE_lt v.1
  have r4 := rE_lt (EE w k)
  generalize hse : sE (EE w k) = s at *
  generalize hre : rE (EE w k) = r at *
  have vr : r < nS w s := by have := v.2; rwa [hse, hre] at this
  have jl : 2 * (nS w 0 * s + r) < 2 * (nS w 0 + nS w 1) := by
    rcases (show s = 0 ∨ s = 1 by omega) with z | z
    · subst z; omega
    · subst z; omega
  obtain ⟨k0, hk0, e0⟩ := EE_mem R jl
  have fe := fE_at (n0 := nS w 0) (s := s) (r := r) (d := 0) hs (fun z => by subst z; exact vr) (by omega)
  rw [Nat.add_zero] at fe
  rw [fe] at e0
  have e1 : EE w k0 = EE w k + 1 := by omega
  refine ⟨k0, ?_, e1⟩
  rcases Nat.lt_trichotomy k0 k with z | z | z
  · exact z
  · rw [z] at e1; omega
  · exfalso
    have le := EE_srt (w := w) z hk0
    have v0 := EE_v R hk0
    rw [(kE_eq R v.1 (by rw [hse, hre]; exact vr)).1, (kE_eq R v0.1 v0.2).1] at le
    have s0 : sE (EE w k0) = s := by rw [e1, cd]; unfold sE; omega
    have r0 : rE (EE w k0) = r := by rw [e1, cd]; unfold rE; omega
    have lt := Int32.lt_iff_toInt_lt.mp (sp_lt_ep R hs vr)
    have rg := sp_rng R hs vr
    have p1 : plE w (EE w k) = ep w s r := by unfold plE; rw [if_neg (by omega), hse, hre]
    have p0 : plE w (EE w k0) = sp w s r := by unfold plE; rw [if_pos (by omega), s0, r0]
    unfold evC at le
    rw [p1, p0, s0, r0, hse, hre] at le
    unfold pN at le
    omega
set_option maxHeartbeats 400000 in
theorem cN_pairs {q : Nat → Bool} {f : Nat → Nat} {b : Nat} : ∀ n, (∀ r, r < n → q (f (b + (2 * r + 1))) = false) → cN (fun k => q (f (b + k))) (2 * n) = cN (fun r => q (f (b + 2 * r))) n
  | 0, _ => rfl
  | n + 1, h => by
    have ih := cN_pairs (q := q) (f := f) (b := b) n (fun r hr => h r (by omega))
    rw [show 2 * (n + 1) = 2 * n + 1 + 1 by omega]
    simp only [cN]
    rw [ih, if_neg (show ¬ q (f (b + (2 * n + 1))) = true by rw [h n (by omega)]; decide)]
    rfl
set_option maxHeartbeats 400000 in
theorem EE_sc (R : RowsOk w) {u : Nat} (hu : u < 4) (hs : s < 2) : scN w (2 * (nS w 0 + nS w 1)) (EE w) 0 (4 * s + u) = cN (fun r => decide (fld w s r 0 = nI u)) (nS w s) := by
  have n0 := (R 0 (by omega)).2.1
  have n1 := (R 1 (by omega)).2.1
  have c1 := srtK_cnt (key := kE w) (f := fE (nS w 0)) (fun e => decide (e % 2 = 1) && decide (ruE w e = 4 * s + u)) (2 * (nS w 0 + nS w 1))
  have c2 : scN w (2 * (nS w 0 + nS w 1)) (EE w) 0 (4 * s + u) = cN (fun i => decide (srtK (kE w) (fE (nS w 0)) (2 * (nS w 0 + nS w 1)) i % 2 = 1) && decide (ruE w (srtK (kE w) (fE (nS w 0)) (2 * (nS w 0 + nS w 1)) i) = 4 * s + u)) (2 * (nS w 0 + nS w 1)) := cN_congr _ (fun k _ => by
    rw [decide_eq_true (Nat.zero_le k), Bool.true_and]; rfl)
  rw [c2, c1, show 2 * (nS w 0 + nS w 1) = 2 * nS w 0 + 2 * nS w 1 by omega, cN_split]
  have fa : ∀ t r d, t < 2 → r < nS w t → d < 2 → fE (nS w 0) (2 * (nS w 0 * t + r) + d) = 2 * (40 * t + r) + 1 - d := fun t r d ht hr hd => fE_at ht (fun z => by subst z; exact hr) hd
  have oneS : ∀ t, t < 2 → cN (fun k => (fun e => decide (e % 2 = 1) && decide (ruE w e = 4 * s + u)) (fE (nS w 0) (2 * (nS w 0 * t) + k))) (2 * nS w t) = if t = s then cN (fun r => decide (fld w s r 0 = nI u)) (nS w s) else 0 := by
    intro t ht
    have nt := (R t ht).2.1
    rw [cN_pairs (q := fun e => decide (e % 2 = 1) && decide (ruE w e = 4 * s + u)) (f := fE (nS w 0)) (b := 2 * (nS w 0 * t)) (nS w t) (fun r hr => by
      have := fa t r 1 ht hr (by omega)
      rw [show 2 * (nS w 0 * t) + (2 * r + 1) = 2 * (nS w 0 * t + r) + 1 by omega, this]
      rw [decide_eq_false (show ¬ (2 * (40 * t + r) + 1 - 1) % 2 = 1 by omega), Bool.false_and])]
    have ev : ∀ r, r < nS w t → (decide (fE (nS w 0) (2 * (nS w 0 * t) + 2 * r) % 2 = 1) && decide (ruE w (fE (nS w 0) (2 * (nS w 0 * t) + 2 * r)) = 4 * s + u)) = (decide (t = s) && decide (fld w t r 0 = nI u)) := by
      intro r hr
      have := fa t r 0 ht hr (by omega)
      rw [Nat.add_zero] at this
      rw [show 2 * (nS w 0 * t) + 2 * r = 2 * (nS w 0 * t + r) by omega, this, Nat.sub_zero, decide_eq_true (show (2 * (40 * t + r) + 1) % 2 = 1 by omega), Bool.true_and]
      have e1 := evt_sE (s := t) (r := r) (d := 1) (by omega) (by omega)
      have v : vE w (2 * (40 * t + r) + 1) := ⟨by omega, by rw [e1.1, e1.2]; exact hr⟩
      obtain ⟨u1, u2, u3⟩ := ruE_lt R v.1 v.2
      rw [e1.1, e1.2] at u2 u3
      unfold ruE
      rw [e1.1, e1.2]
      by_cases z : t = s
      · rw [decide_eq_true z, Bool.true_and]
        refine decide_eq_decide.mpr ⟨fun y => ?_, fun y => ?_⟩
        · rw [u2, show ix (fld w t r 0) = u by omega]
        · rw [y, ix_nI (by omega), z]
      · rw [decide_eq_false z, Bool.false_and]
        exact decide_eq_false (by omega)
    by_cases z : t = s
    · subst z
      rw [if_pos rfl]
      refine cN_congr _ (fun r hr => ?_)
      have := ev r hr
      rw [decide_eq_true rfl, Bool.true_and] at this
      exact this
    · rw [if_neg z]
      have c0 : cN (fun r => (fun e => decide (e % 2 = 1) && decide (ruE w e = 4 * s + u)) (fE (nS w 0) (2 * (nS w 0 * t) + 2 * r))) (nS w t) = cN (fun _ => false) (nS w t) := cN_congr _ (fun r hr => by
        have := ev r hr
        rw [decide_eq_false z, Bool.false_and] at this
        exact this)
      rw [c0]
      have : ∀ n, cN (fun _ => false) n = 0 := fun n => by
        induction n with
        | zero => rfl
        | succ n ih => simp [cN, ih]
      exact this _
  have z0 := oneS 0 (by omega)
  have z1 := oneS 1 (by omega)
  rw [Nat.mul_zero, Nat.mul_zero] at z0
  simp only [Nat.zero_add] at z0
  rw [Nat.mul_one] at z1
  have z0' : cN (fun i => decide (fE (nS w 0) i % 2 = 1) && decide (ruE w (fE (nS w 0) i) = 4 * s + u)) (2 * nS w 0) = _ := z0
  have z1' : cN (fun i => decide (fE (nS w 0) (2 * nS w 0 + i) % 2 = 1) && decide (ruE w (fE (nS w 0) (2 * nS w 0 + i)) = 4 * s + u)) (2 * nS w 1) = _ := z1
  rw [z0', z1']
  rcases (show s = 0 ∨ s = 1 by omega) with z | z
  · subst z; rw [if_pos rfl, if_neg (by decide)]; omega
  · subst z; rw [if_neg (by decide), if_pos rfl]; omega
end SW
