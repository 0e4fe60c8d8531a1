/-! the class draws the net tight: rounds -/
def pcU (F : Nat → Nat) : Nat → Nat := fun j => if j / 6 < j % 6 then cN (fun b => (F j).testBit b) 13 else 0
set_option maxHeartbeats 400000 in
theorem pc_lt {x y : Nat} (hx : x < 8192) (hy : y < 8192) (h : sub x y) (ne : x ≠ y) : cN (fun b => x.testBit b) 13 < cN (fun b => y.testBit b) 13 := by
  have ex : ∃ b, b < 13 ∧ y.testBit b = true ∧ x.testBit b = false := by
    apply Classical.byContradiction
    intro no
    refine ne (sub.eq hx hy h (fun b hb z => ?_))
    cases hxb : x.testBit b with
    | true => rfl
    | false => exact absurd ⟨b, hb, z, hxb⟩ no
  obtain ⟨b, hb, yb, xb⟩ := ex
  have le := cN_imp (p := fun i => x.testBit i || decide (i = b)) (q := fun i => y.testBit i) 13 (fun i hi z => by
    rw [Bool.or_eq_true, decide_eq_true_eq] at z
    rcases z with z | z
    · exact h i hi z
    · rw [z]; exact yb)
  have ins := cN_ins (p := fun i => x.testBit i || decide (i = b)) (r := fun i => x.testBit i) (x := b) 13 (fun i hi => by rw [decide_eq_false hi, Bool.or_false]) (by rw [decide_eq_true rfl, Bool.or_true]) xb hb
  omega
set_option maxHeartbeats 400000 in
theorem smF_le {F G : Nat → Nat} : ∀ n, (∀ j, j < n → F j ≤ G j) → smF F n ≤ smF G n
  | 0, _ => Nat.le_refl _
  | n + 1, h => by
    have ih := smF_le n (fun j hj => h j (by omega))
    have := h n (by omega)
    simp only [smF]; omega
set_option maxHeartbeats 400000 in
theorem smF_lt {F G : Nat → Nat} {a : Nat} : ∀ n, a < n → (∀ j, j < n → F j ≤ G j) → F a < G a → smF F n < smF G n
  | 0, h, _, _ => by omega
  | n + 1, ha, h, hl => by
    simp only [smF]
    rcases (show a < n ∨ a = n by omega) with z | z
    · have ih := smF_lt n z (fun j hj => h j (by omega)) hl
      have := h n (by omega)
      omega
    · have ih := smF_le n (fun j hj => h j (by omega))
      rw [z] at hl
      omega
set_option maxHeartbeats 400000 in
theorem pcU_195 (F : Nat → Nat) : smF (pcU F) 36 ≤ 195 := by
  have le := smF_le (F := pcU F) (G := fun j => if j / 6 < j % 6 then 13 else 0) 36 (fun j _ => by
    unfold pcU
    show (if j / 6 < j % 6 then cN (fun b => (F j).testBit b) 13 else 0) ≤ if j / 6 < j % 6 then 13 else 0
    by_cases z : j / 6 < j % 6
    · rw [if_pos z, if_pos z]; exact cN_le _ _
    · rw [if_neg z, if_neg z]; exact Nat.le_refl _)
  have e : smF (fun j => if j / 6 < j % 6 then 13 else 0) 36 = 195 := by decide
  omega
set_option maxHeartbeats 400000 in
theorem pcU_narrow {N F : Nat → Nat} {i k : Nat} (H : IT N F) (hi : i < 6) (hk : k < 6) (lt : i < k) (ch : nrV F i k 6 ≠ F (6 * i + k)) : smF (pcU (tie F i k (nrV F i k 6))) 36 < smF (pcU F) 36 := by
  have fik := H.1 (6 * i + k) (by omega)
  have vl := nrV_lt (i := i) (k := k) fik 6
  have vs := (nrV_sub (F := F) (i := i) (k := k) 6).1
  have at1 : pcU (tie F i k (nrV F i k 6)) (6 * i + k) < pcU F (6 * i + k) := by
    unfold pcU tie
    rw [if_pos (show (6 * i + k) / 6 < (6 * i + k) % 6 by omega), if_pos (show (6 * i + k) / 6 < (6 * i + k) % 6 by omega), if_neg (show ¬ 6 * i + k = 6 * k + i by omega), if_pos rfl]
    exact pc_lt vl fik vs ch
  refine smF_lt (a := 6 * i + k) 36 (by omega) (fun j hj => ?_) at1
  by_cases y : j = 6 * i + k
  · rw [y]; exact Nat.le_of_lt at1
  · unfold pcU tie
    by_cases z : j = 6 * k + i
    · rw [if_neg (show ¬ j / 6 < j % 6 by omega), if_neg (show ¬ j / 6 < j % 6 by omega)]; exact Nat.le_refl _
    · rw [if_neg z, if_neg y]; exact Nat.le_refl _
/-- a round so far -/
def OD (N F0 F : Nat → Nat) (more : Int32) (i k : Nat) : Prop := IT N F ∧ symN F ∧ ((more = 0 ∧ F = F0 ∧ ∀ a b, a < 6 → b < 6 → a < b → (a < i ∨ (a = i ∧ b < k)) → nrV F0 a b 6 = F0 (6 * a + b)) ∨ (more = 1 ∧ smF (pcU F) 36 < smF (pcU F0) 36))
section DR
variable {h0 h : HP} {N F F0 : Nat → Nat} {i : Nat}
set_option maxHeartbeats 400000 in
theorem X_d53 (hN : symN N) (hi : i < 6) {more rd : Int32} (X : XT h0 h F) (O : OD N F0 F more i (i + 1)) : ∃ h' F' more', f_We_draw_l53 29 h rd (nI i) (h, more, nI (i + 1)) = some (Sum.inl (h', more', nI (i + 1))) ∧ XT h0 h' F' ∧ OD N F0 F' more' (i + 1) 0 := by
  unfold f_We_draw_l53
  have key := loop_inv (body := fun x : HP × Int32 × Int32 => f_We_draw_b53 29 x.1 rd (nI i) x.2.1 x.2.2) (fun t x => ∃ h' F' more', x = (h', more', nI (i + 1 + t)) ∧ XT h0 h' F' ∧ OD N F0 F' more' i (i + 1 + t)) (5 - i) (fun y => ∃ h' F' more', y = Sum.inl (h', more', nI (i + 1)) ∧ XT h0 h' F' ∧ OD N F0 F' more' (i + 1) 0) (fun t x ht hI => ?_) (fun x hI => ?_) (h, more, nI (i + 1)) ⟨h, F, more, rfl, X, O⟩
  · obtain ⟨y, e, h', F', more', rfl, X', O'⟩ := key
    exact ⟨h', F', more', e, X', O'⟩
  · obtain ⟨h', F', more', rfl, X', O'⟩ := hI
    have hk : i + 1 + t < 6 := by omega
    obtain ⟨h2, e2, X2⟩ := X_narrow X' O'.1.1 hi hk (by omega)
    obtain ⟨I2, S2⟩ := IT_narrow hN O'.1 O'.2.1 hi hk (by omega)
    show ∃ s', f_We_draw_b53 29 h' rd (nI i) more' (nI (i + 1 + t)) = some (Sum.inl s') ∧ _
    unfold f_We_draw_b53
    rw [if_neg (show ¬ (6 : Int32) ≤ nI (i + 1 + t) from nI_ge (b := 6) hk (by decide)), nI_1]
    by_cases y : nrV F' i (i + 1 + t) 6 = F' (6 * i + (i + 1 + t))
    · rw [if_pos y] at e2
      have same : tie F' i (i + 1 + t) (nrV F' i (i + 1 + t) 6) = F' := funext (fun x => by
        unfold tie
        by_cases u : x = 6 * (i + 1 + t) + i
        · rw [if_pos u, u, y]; exact (O'.2.1 i (i + 1 + t) hi hk).symm
        · rw [if_neg u]
          by_cases v : x = 6 * i + (i + 1 + t)
          · rw [if_pos v, v]; exact y
          · rw [if_neg v])
      rw [same] at X2
      refine ⟨(h2, more', nI (i + 1 + t + 1)), bsome e2 (if_pos rfl), h2, F', more', rfl, X2, O'.1, O'.2.1, ?_⟩
      rcases O'.2.2 with ⟨e1, e2', e3⟩ | e1
      · refine Or.inl ⟨e1, e2', fun a b ha hb hab hh => ?_⟩
        by_cases u : a = i ∧ b = i + 1 + t
        · rw [u.1, u.2, ← e2']; exact y
        · exact e3 a b ha hb hab (by omega)
      · exact Or.inr e1
    · rw [if_neg y] at e2
      refine ⟨(h2, 1, nI (i + 1 + t + 1)), bsome e2 (if_neg one0), h2, _, 1, rfl, X2, I2, S2, Or.inr ⟨rfl, ?_⟩⟩
      have lt := pcU_narrow O'.1 hi hk (by omega) y
      rcases O'.2.2 with ⟨-, e3, -⟩ | ⟨-, e3⟩
      · rw [← e3]; exact lt
      · omega
  · obtain ⟨h', F', more', rfl, X', O'⟩ := hI
    rw [show i + 1 + (5 - i) = 6 by omega] at O' ⊢
    show ∃ t, f_We_draw_b53 29 h' rd (nI i) more' (nI 6) = some (Sum.inr t) ∧ _
    unfold f_We_draw_b53
    rw [if_pos (show (6 : Int32) ≤ nI 6 from nle 6), nI_1]
    refine ⟨_, rfl, h', F', more', rfl, X', O'.1, O'.2.1, ?_⟩
    rcases O'.2.2 with ⟨e1, e2, e3⟩ | e1
    · exact Or.inl ⟨e1, e2, fun a b ha hb hab hh => e3 a b ha hb hab (by omega)⟩
    · exact Or.inr e1
set_option maxHeartbeats 400000 in
theorem X_d42 (hN : symN N) {r : Nat} (X : XT h0 h F) (I : IT N F) (S : symN F) : ∃ h' F' more', f_We_draw_l42 29 h (nI r) (h, 0, 0) = some (Sum.inl (h', more', nI (r + 1))) ∧ XT h0 h' F' ∧ OD N F F' more' 6 0 := by
  unfold f_We_draw_l42
  have key := loop_inv (body := fun x : HP × Int32 × Int32 => f_We_draw_b42 29 x.1 (nI r) x.2.1 x.2.2) (fun i x => ∃ h' F' more', x = (h', more', nI i) ∧ XT h0 h' F' ∧ OD N F F' more' i 0) 6 (fun y => ∃ h' F' more', y = Sum.inl (h', more', nI (r + 1)) ∧ XT h0 h' F' ∧ OD N F F' more' 6 0) (fun i x hi hI => ?_) (fun x hI => ?_) (h, 0, 0) ⟨h, F, 0, rfl, X, I, S, Or.inl ⟨rfl, rfl, fun a b _ _ _ hh => by omega⟩⟩
  · obtain ⟨y, e, h', F', more', rfl, X', O'⟩ := key
    exact ⟨h', F', more', e, X', O'⟩
  · obtain ⟨h', F', more', rfl, X', O'⟩ := hI
    have O2 : OD N F F' more' i (i + 1) := by
      refine ⟨O'.1, O'.2.1, ?_⟩
      rcases O'.2.2 with ⟨e1, e2, e3⟩ | e1
      · exact Or.inl ⟨e1, e2, fun a b ha hb hab hh => e3 a b ha hb hab (by omega)⟩
      · exact Or.inr e1
    obtain ⟨h2, F2, more2, e2, X2, O3⟩ := X_d53 (rd := nI r) hN hi X' O2
    show ∃ s', f_We_draw_b42 29 h' (nI r) more' (nI i) = some (Sum.inl s') ∧ _
    unfold f_We_draw_b42
    rw [if_neg (show ¬ (6 : Int32) ≤ nI i from nI_ge (b := 6) hi (by decide)), nI_1, e2]
    exact ⟨_, rfl, h2, F2, more2, rfl, X2, O3⟩
  · obtain ⟨h', F', more', rfl, X', O'⟩ := hI
    show ∃ t, f_We_draw_b42 29 h' (nI r) more' (nI 6) = some (Sum.inr t) ∧ _
    unfold f_We_draw_b42
    rw [if_pos (show (6 : Int32) ≤ nI 6 from nle 6), nI_1]
    exact ⟨_, rfl, h', F', more', rfl, X', O'⟩
end DR
