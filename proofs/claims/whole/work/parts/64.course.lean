/-! the course: what an event does, purely -/
section PU
variable {w : Nat → Int32} {T G : Nat} {E AC : Nat → Nat} {A : Nat → Nat → Nat} {s r : Nat}
set_option maxHeartbeats 400000 in
theorem ev_code {e : Nat} (he : e < 160) : e = 2 * (40 * sE e + rE e) + e % 2 := by unfold sE rE; omega
set_option maxHeartbeats 400000 in
theorem AC_start (EV : EVs w T E) (H : ACs G E AC A) (hG : G < T) (hs : s < 2) (hr : r < 40) (e : E G = 2 * (40 * s + r) + 1) : ACs (G + 1) E (fun t => if t = s then AC s + 1 else AC t) (fun t i => if t = s ∧ i = AC s then r else A t i) := by
  have new : ∀ k, k < G → E k ≠ 2 * (40 * s + r) + 1 := fun k hk z => by
    have := EV.2.1 k G (by omega) hG (z.trans e.symm); omega
  have noend : ∀ k, k < G + 1 → E k ≠ 2 * (40 * s + r) := fun k hk z => by
    obtain ⟨k0, h1, h2⟩ := EV.2.2 k (by omega) (by omega)
    have := EV.2.1 k0 G (by omega) hG (by omega)
    omega
  intro t ht
  obtain ⟨a, b, c⟩ := H t ht
  by_cases z : t = s
  · subst z
    have nr : ∀ i, i < AC t → A t i ≠ r := fun i hi y => by
      obtain ⟨⟨k, hk, e2⟩, -⟩ := (c r hr).mp ⟨i, hi, y⟩
      exact new k hk e2
    simp only [if_true, true_and]
    refine ⟨fun i hi => ?_, fun i j hi hj y => ?_, fun r' hr' => ?_⟩
    · by_cases y : i = AC t
      · rw [if_pos y]; exact hr
      · rw [if_neg y]; exact a i (by omega)
    · by_cases u : i = AC t
      · by_cases v : j = AC t
        · omega
        · rw [if_pos u, if_neg v] at y; exact absurd y.symm (nr j (by omega))
      · by_cases v : j = AC t
        · rw [if_neg u, if_pos v] at y; exact absurd y (nr i (by omega))
        · rw [if_neg u, if_neg v] at y; exact b i j (by omega) (by omega) y
    · by_cases y : r' = r
      · subst y
        exact ⟨fun _ => ⟨⟨G, by omega, e⟩, fun ⟨k, hk, x⟩ => noend k hk x⟩, fun _ => ⟨AC t, by omega, if_pos rfl⟩⟩
      · have := c r' hr'
        constructor
        · rintro ⟨i, hi, x⟩
          by_cases u : i = AC t
          · rw [if_pos u] at x; exact absurd x.symm y
          · rw [if_neg u] at x
            obtain ⟨⟨k, hk, p⟩, q⟩ := this.mp ⟨i, by omega, x⟩
            refine ⟨⟨k, by omega, p⟩, fun ⟨k', hk', x'⟩ => ?_⟩
            rcases (show k' < G ∨ k' = G by omega) with v | v
            · exact q ⟨k', v, x'⟩
            · rw [v, e] at x'; omega
        · rintro ⟨⟨k, hk, p⟩, q⟩
          have kG : k < G := by
            rcases (show k < G ∨ k = G by omega) with v | v
            · exact v
            · rw [v, e] at p; omega
          obtain ⟨i, hi, x⟩ := this.mpr ⟨⟨k, kG, p⟩, fun ⟨k', hk', x'⟩ => q ⟨k', by omega, x'⟩⟩
          exact ⟨i, by omega, by rw [if_neg (by omega)]; exact x⟩
  · simp only [if_neg z, z, false_and, if_false]
    refine ⟨a, b, fun r' hr' => ?_⟩
    rw [c r' hr']
    constructor
    · rintro ⟨⟨k, hk, p⟩, q⟩
      refine ⟨⟨k, by omega, p⟩, fun ⟨k', hk', x'⟩ => ?_⟩
      rcases (show k' < G ∨ k' = G by omega) with v | v
      · exact q ⟨k', v, x'⟩
      · rw [v, e] at x'; omega
    · rintro ⟨⟨k, hk, p⟩, q⟩
      refine ⟨⟨k, ?_, p⟩, fun ⟨k', hk', x'⟩ => q ⟨k', by omega, x'⟩⟩
      rcases (show k < G ∨ k = G by omega) with v | v
      · exact v
      · rw [v, e] at p; omega
set_option maxHeartbeats 400000 in
theorem AC_mem (EV : EVs w T E) (H : ACs G E AC A) (hG : G < T) (hs : s < 2) (hr : r < 40) (e : E G = 2 * (40 * s + r)) : ∃ i, i < AC s ∧ A s i = r := by
  refine ((H s hs).2.2 r hr).mpr ⟨?_, fun ⟨k, hk, z⟩ => ?_⟩
  · obtain ⟨k0, h1, h2⟩ := EV.2.2 G hG (by omega)
    exact ⟨k0, h1, by omega⟩
  · have := EV.2.1 k G (by omega) hG (z.trans e.symm)
    omega
set_option maxHeartbeats 400000 in
theorem AC_end (EV : EVs w T E) (H : ACs G E AC A) (hG : G < T) (hs : s < 2) (hr : r < 40) (e : E G = 2 * (40 * s + r)) {i0 : Nat} (h0 : i0 < AC s) (e0 : A s i0 = r) : ACs (G + 1) E (fun t => if t = s then AC s - 1 else AC t) (fun t i => if t = s ∧ i = i0 then A s (AC s - 1) else A t i) := by
  intro t ht
  obtain ⟨a, b, c⟩ := H t ht
  by_cases z : t = s
  · subst z
    simp only [if_true, true_and]
    refine ⟨fun i hi => ?_, fun i j hi hj y => ?_, fun r' hr' => ?_⟩
    · by_cases y : i = i0
      · rw [if_pos y]; exact a _ (by omega)
      · rw [if_neg y]; exact a i (by omega)
    · by_cases u : i = i0
      · by_cases v : j = i0
        · omega
        · rw [if_pos u, if_neg v] at y; have := b _ _ (by omega) (by omega) y; omega
      · by_cases v : j = i0
        · rw [if_neg u, if_pos v] at y; have := b _ _ (by omega) (by omega) y; omega
        · rw [if_neg u, if_neg v] at y; exact b i j (by omega) (by omega) y
    · have := c r' hr'
      constructor
      · rintro ⟨i, hi, x⟩
        have ex : ∃ i', i' < AC t ∧ A t i' = r' ∧ i' ≠ i0 := by
          by_cases u : i = i0
          · rw [if_pos u] at x; exact ⟨AC t - 1, by omega, x, by omega⟩
          · rw [if_neg u] at x; exact ⟨i, by omega, x, u⟩
        obtain ⟨i', h1, h2, h3⟩ := ex
        obtain ⟨⟨k, hk, p⟩, q⟩ := this.mp ⟨i', h1, h2⟩
        refine ⟨⟨k, by omega, p⟩, fun ⟨k', hk', x'⟩ => ?_⟩
        rcases (show k' < G ∨ k' = G by omega) with v | v
        · exact q ⟨k', v, x'⟩
        · rw [v, e] at x'
          have : r' = r := by omega
          exact h3 (b i' i0 h1 h0 (by rw [h2, e0, this]))
      · rintro ⟨⟨k, hk, p⟩, q⟩
        have kG : k < G := by
          rcases (show k < G ∨ k = G by omega) with v | v
          · exact v
          · rw [v, e] at p; omega
        obtain ⟨i, hi, x⟩ := this.mpr ⟨⟨k, kG, p⟩, fun ⟨k', hk', x'⟩ => q ⟨k', by omega, x'⟩⟩
        have ne : i ≠ i0 := fun y => by
          rw [y, e0] at x
          exact q ⟨G, by omega, by rw [e, x]⟩
        by_cases u : i = AC t - 1
        · exact ⟨i0, by omega, by rw [if_pos rfl, ← u]; exact x⟩
        · exact ⟨i, by omega, by rw [if_neg ne]; exact x⟩
  · simp only [if_neg z, z, false_and, if_false]
    refine ⟨a, b, fun r' hr' => ?_⟩
    rw [c r' hr']
    constructor
    · rintro ⟨⟨k, hk, p⟩, q⟩
      refine ⟨⟨k, by omega, p⟩, fun ⟨k', hk', x'⟩ => ?_⟩
      rcases (show k' < G ∨ k' = G by omega) with v | v
      · exact q ⟨k', v, x'⟩
      · rw [v, e] at x'; omega
    · rintro ⟨⟨k, hk, p⟩, q⟩
      refine ⟨⟨k, ?_, p⟩, fun ⟨k', hk', x'⟩ => q ⟨k', by omega, x'⟩⟩
      rcases (show k < G ∨ k = G by omega) with v | v
      · exact v
      · rw [v, e] at p; omega
set_option maxHeartbeats 400000 in
theorem stN_start (EV : EVs w T E) (hG : G < T) (hs : s < 2) (hr : r < 40) (e : E G = 2 * (40 * s + r) + 1) : stN E (G + 1) s = stN E G s + 1 ∧ ∀ t, t < 2 → t ≠ s → stN E (G + 1) t = stN E G t := by
  constructor
  · unfold stN
    refine cN_ins (x := r) 40 (fun i hi => ?_) ?_ ?_ hr
    · simp only [anyN]
      rw [decide_eq_false (show ¬ E G = 2 * (40 * s + i) + 1 by omega), Bool.or_false]
    · exact (anyN_iff _).mpr ⟨G, by omega, decide_eq_true e⟩
    · rw [Bool.eq_false_iff]
      intro z
      obtain ⟨k, hk, y⟩ := (anyN_iff _).mp z
      have := EV.2.1 k G (by omega) hG ((of_decide_eq_true y).trans e.symm)
      omega
  · intro t ht ne
    unfold stN
    refine cN_congr 40 (fun i hi => ?_)
    simp only [anyN]
    rw [decide_eq_false (show ¬ E G = 2 * (40 * t + i) + 1 by omega), Bool.or_false]
set_option maxHeartbeats 400000 in
theorem stN_end (hr : r < 40) (e : E G = 2 * (40 * s + r)) (t : Nat) : stN E (G + 1) t = stN E G t := by
  unfold stN
  refine cN_congr 40 (fun i hi => ?_)
  simp only [anyN]
  rw [decide_eq_false (show ¬ E G = 2 * (40 * t + i) + 1 by omega), Bool.or_false]
/-- starts to come -/
def scN (w : Nat → Int32) (T : Nat) (E : Nat → Nat) (G u : Nat) : Nat := cN (fun k => decide (G ≤ k) && (decide (E k % 2 = 1) && decide (ruE w (E k) = u))) T
set_option maxHeartbeats 400000 in
theorem scN_step (hG : G < T) (u : Nat) : scN w T E G u = scN w T E (G + 1) u + (if E G % 2 = 1 ∧ ruE w (E G) = u then 1 else 0) := by
  unfold scN
  by_cases z : E G % 2 = 1 ∧ ruE w (E G) = u
  · rw [if_pos z]
    refine cN_ins (x := G) T (fun i hi => ?_) ?_ ?_ hG
    · rw [decide_eq_decide.mpr (show G ≤ i ↔ G + 1 ≤ i by omega)]
    · rw [decide_eq_true (Nat.le_refl G), decide_eq_true z.1, decide_eq_true z.2]; rfl
    · rw [decide_eq_false (show ¬ G + 1 ≤ G by omega), Bool.false_and]
  · rw [if_neg z, Nat.add_zero]
    refine cN_congr T (fun i hi => ?_)
    by_cases y : i = G
    · rw [y, decide_eq_false (show ¬ G + 1 ≤ G by omega), Bool.false_and]
      by_cases a : E G % 2 = 1
      · rw [decide_eq_false (show ¬ ruE w (E G) = u from fun b => z ⟨a, b⟩), Bool.and_false, Bool.and_false]
      · rw [decide_eq_false a, Bool.false_and, Bool.and_false]
    · rw [decide_eq_decide.mpr (show G ≤ i ↔ G + 1 ≤ i by omega)]
set_option maxHeartbeats 400000 in
theorem scN_le (G u : Nat) : scN w T E G u ≤ T := cN_le _ _
end PU
/-- pairs put behind others -/
def pfP (p : Nat → Bool) (cod : Nat → Nat) (np : Nat) (P : Nat → Nat) : Nat → Nat → Nat
  | 0 => P
  | t + 1 => fun j => if p t = true ∧ j = np + cN p t then cod t else pfP p cod np P t j
set_option maxHeartbeats 400000 in
theorem pfP_lo {p : Nat → Bool} {cod : Nat → Nat} {np : Nat} {P : Nat → Nat} {Q : Nat → Prop} (h0 : ∀ i, i < np → Q (P i)) : ∀ t, (∀ i, i < t → p i = true → Q (cod i)) → ∀ j, j < np + cN p t → Q (pfP p cod np P t j)
  | 0, _, j, hj => by simp only [cN] at hj; exact h0 j (by omega)
  | t + 1, h, j, hj => by
    have ih := pfP_lo (p := p) (cod := cod) h0 t (fun i hi => h i (by omega))
    simp only [pfP]
    by_cases z : p t = true ∧ j = np + cN p t
    · rw [if_pos z]; exact h t (by omega) z.1
    · rw [if_neg z]
      refine ih j ?_
      simp only [cN] at hj
      by_cases y : p t = true
      · rw [if_pos y] at hj
        have : j ≠ np + cN p t := fun e => z ⟨y, e⟩
        omega
      · rw [if_neg y] at hj; omega
set_option maxHeartbeats 400000 in
/-- the class's code of an event, taken apart -/
theorem evC_bits {w : Nat → Int32} {e : Nat} (he : e < 160) (h1 : -2000000 ≤ (plE w e).toInt) (h2 : (plE w e).toInt ≤ 2000001) : ((nI (evC w e) >>> (7 &&& 31)) &&& 1) = nI (e % 2) ∧ ((nI (evC w e) >>> (6 &&& 31)) &&& 1) = nI (sE e) ∧ (nI (evC w e) &&& 63) = nI (rE e) ∧ (nI (evC w e) >>> (8 &&& 31)) - 2000000 = plE w e := by
  have hs := sE_lt he
  have hr := rE_lt e
  have hp : pN (plE w e) ≤ 4000001 := by unfold pN; omega
  have hb : evC w e < 2 ^ 31 := by unfold evC; omega
  refine ⟨?_, ?_, ?_, ?_⟩
  · rw [pk_shrN hb _ 7 (by decide), pk_andN (by omega) 1 (by decide)]
    congr 1
    unfold evC; omega
  · rw [pk_shrN hb _ 6 (by decide), pk_andN (by omega) 1 (by decide)]
    congr 1
    unfold evC; omega
  · rw [pk_andN (by omega) 6 (by decide)]
    congr 1
    unfold evC; omega
  · rw [pk_shrN hb _ 8 (by decide), show evC w e / 2 ^ 8 = pN (plE w e) by unfold evC; omega, ← pl_nI h1 h2]
    refine Int32.toInt_inj.mp ?_
    rw [Int32.toInt_sub, Int32.toInt_add]
    simp only [Int.bmod, show (2000000 : Int32).toInt = 2000000 from rfl]
    omega
