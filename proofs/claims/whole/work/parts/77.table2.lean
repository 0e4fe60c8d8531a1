/-! the reference's table, made by its loops -/
def TB (m : HP) (x : Nat) : Prop := ∀ j, j < 169 → m.1 9 j = nI (x / 2 ^ (13 * j) % 8192)
set_option maxHeartbeats 400000 in
theorem one_shl13 : ∀ k, k < 13 → (1 : Int32) <<< (nI k &&& 31) = nI (2 ^ k) := by decide +kernel
set_option maxHeartbeats 400000 in
theorem or_part {x j j0 k : Nat} (hk : k < 13) : (x ||| 2 ^ (13 * j0 + k)) / 2 ^ (13 * j) % 8192 = if j = j0 then (x / 2 ^ (13 * j) % 8192) ||| 2 ^ k else x / 2 ^ (13 * j) % 8192 := by
  rw [show (8192 : Nat) = 2 ^ 13 from rfl]
  by_cases z : j = j0
  · rw [if_pos z]
    subst z
    apply Nat.eq_of_testBit_eq
    intro i
    simp only [Nat.testBit_mod_two_pow, Nat.testBit_div_two_pow, Nat.testBit_or, Nat.testBit_two_pow]
    by_cases y : i < 13
    · rw [decide_eq_true y, Bool.true_and, Bool.true_and, decide_eq_decide.mpr (show 13 * j + k = i + 13 * j ↔ k = i by omega)]
    · rw [decide_eq_false y, Bool.false_and, Bool.false_and, Bool.false_or]
      exact (decide_eq_false (by omega)).symm
  · rw [if_neg z]
    apply Nat.eq_of_testBit_eq
    intro i
    simp only [Nat.testBit_mod_two_pow, Nat.testBit_div_two_pow, Nat.testBit_or, Nat.testBit_two_pow]
    by_cases y : i < 13
    · rw [decide_eq_false (show ¬ 13 * j0 + k = i + 13 * j by omega), Bool.or_false]
    · rw [decide_eq_false y, Bool.false_and, Bool.false_and]
set_option maxHeartbeats 400000 in
theorem TB_put {m : HP} {x j0 k : Nat} (T : TB m x) (hj : j0 < 169) (hk : k < 13) : TB (upI m 9 j0 (m.1 9 j0 ||| ((1 : Int32) <<< (nI k &&& 31)))) (x ||| 2 ^ (13 * j0 + k)) := by
  intro j hj'
  rw [upI_s, or_part hk, T j0 hj, one_shl13 k hk]
  have l1 : x / 2 ^ (13 * j0) % 8192 < 8192 := Nat.mod_lt _ (by decide)
  have l2 : 2 ^ k < 2 ^ 13 := Nat.pow_lt_pow_right (by decide) hk
  by_cases z : j = j0
  · rw [if_pos z, if_pos z, z, nI_or (by omega) (by omega)]
  · rw [if_neg z, if_neg z]; exact T j hj'
set_option maxHeartbeats 400000 in
theorem loop_tb {T : Type} {body : HP × Int32 → Option ((HP × Int32) ⊕ T)} {a n : Nat} (ha : a ≤ n) (st : Nat → Nat → Nat) (I : HP → Nat → Prop) (fin : HP → T) (hs : ∀ i m x, a ≤ i → i < n → I m x → ∃ m', body (m, nI i) = some (Sum.inl (m', nI (i + 1))) ∧ I m' (st i x)) (he : ∀ m, body (m, nI n) = some (Sum.inr (fin m))) {m : HP} {x : Nat} (h0 : I m x) : ∃ m', loop body (m, nI a) = some (fin m') ∧ I m' (fdN a n st x) := by
  have key := loop_inv (body := body) (fun t s => ∃ m', s = (m', nI (a + t)) ∧ I m' (fI (fun i y => st (a + i) y) t x)) (n - a) (fun y => ∃ m', y = fin m' ∧ I m' (fdN a n st x)) (fun t s ht hI => ?_) (fun s hI => ?_) (m, nI a) ⟨m, rfl, h0⟩
  · obtain ⟨y, e, m', rfl, h⟩ := key
    exact ⟨m', e, h⟩
  · obtain ⟨m', rfl, h⟩ := hI
    obtain ⟨m2, e, h2⟩ := hs (a + t) m' _ (by omega) (by omega) h
    exact ⟨_, e, m2, rfl, h2⟩
  · obtain ⟨m', rfl, h⟩ := hI
    rw [show a + (n - a) = n by omega]
    exact ⟨_, he m', m', rfl, h⟩
/-- the table so far, all else as it was -/
def TI (m0 m : HP) (x : Nat) : Prop := TB m x ∧ ∀ a, a ≠ 9 → m.1 a = m0.1 a
section TC
variable {m0 m : HP} {s e t f u x : Nat}
set_option maxHeartbeats 400000 in
theorem M_cw16 (hs : s < 6) (he : e < 6) (ht : t < 6) (hf : f < 6) (hu : u < 6) (h0 : TI m0 m x) : ∃ m', f_Mo_composesWith_l16 0 m (nI s) (nI e) (nI t) (nI f) (nI u) (m, nI (u + 1)) = some (Sum.inl (m', nI (u + 1))) ∧ TI m0 m' (fdN (u + 1) 6 (fun g z => tput s e t f u g z) x) := by
  unfold f_Mo_composesWith_l16
  refine loop_tb (body := fun y : HP × Int32 => f_Mo_composesWith_b16 0 y.1 (nI s) (nI e) (nI t) (nI f) (nI u) y.2) (by omega) (fun g z => tput s e t f u g z) (TI m0) (fun m => Sum.inl (m, nI (u + 1))) (fun g m' z hg1 hg hI => ?_) (fun m' => ?_) h0
  · have k1 := kNn_lt s e t f
    have k2 := kNn_lt t f u g
    have k3 := kNn_lt s e u g
    have l : (13 : Int32) * nI (kNn s e t f) + nI (kNn t f u g) = nI (13 * kNn s e t f + kNn t f u g) := by rw [show (13 : Int32) * nI (kNn s e t f) = nI (13 * kNn s e t f) from pk_mul 13 _, nI_add]
    refine ⟨upI m' 9 (13 * kNn s e t f + kNn t f u g) (m'.1 9 (13 * kNn s e t f + kNn t f u g) ||| ((1 : Int32) <<< (nI (kNn s e u g) &&& 31))), ?_, TB_put hI.1 (by omega) k3, fun a ha => by rw [upI_at _ _ _ _ ha]; exact hI.2 a ha⟩
    show f_Mo_composesWith_b16 0 m' (nI s) (nI e) (nI t) (nI f) (nI u) (nI g) = _
    unfold f_Mo_composesWith_b16
    rw [if_neg (show ¬ (6 : Int32) ≤ nI g from nI_ge (b := 6) hg (by decide)), M_kindOf, M_kindOf, M_kindOf, kK_nat hs he ht hf, kK_nat ht hf hu hg, kK_nat hs he hu hg, nI_1]
    simp only [Option.bind_some]
    rw [l, if_pos (inb_nI (show 13 * kNn s e t f + kNn t f u g < 169 by omega) (by decide)), if_pos (inb_nI (show 13 * kNn s e t f + kNn t f u g < 169 by omega) (by decide)), ix_nI (by omega)]
  · show f_Mo_composesWith_b16 0 m' (nI s) (nI e) (nI t) (nI f) (nI u) (nI 6) = _
    unfold f_Mo_composesWith_b16
    rw [if_pos (show (6 : Int32) ≤ nI 6 from nle 6), nI_1]; rfl
set_option maxHeartbeats 400000 in
theorem M_cw (hs : s < 6) (he : e < 6) (ht : t < 6) (hf : f < 6) (h0 : TI m0 m x) : ∃ m', f_Mo_composesWith 0 m (nI s) (nI e) (nI t) (nI f) = some m' ∧ TI m0 m' (tW s e t f x) := by
  unfold f_Mo_composesWith f_Mo_composesWith_l3
  refine loop_tb (body := fun y : HP × Int32 => f_Mo_composesWith_b3 0 y.1 (nI s) (nI e) (nI t) (nI f) y.2) (a := 0) (n := 6) (by omega) (fun u y => fdN (u + 1) 6 (fun g z => tput s e t f u g z) y) (TI m0) id (fun u m' z hg1 hu hI => ?_) (fun m' => ?_) h0
  · show ∃ m2, f_Mo_composesWith_b3 0 m' (nI s) (nI e) (nI t) (nI f) (nI u) = _ ∧ _
    unfold f_Mo_composesWith_b3
    rw [if_neg (show ¬ (6 : Int32) ≤ nI u from nI_ge (b := 6) hu (by decide)), nI_1]
    exact M_cw16 hs he ht hf hu hI
  · show f_Mo_composesWith_b3 0 m' (nI s) (nI e) (nI t) (nI f) (nI 6) = _
    unfold f_Mo_composesWith_b3
    rw [if_pos (show (6 : Int32) ≤ nI 6 from nle 6)]; rfl
set_option maxHeartbeats 400000 in
theorem M_c36 (hs : s < 6) (he : e < 6) (ht : t < 6) (h0 : TI m0 m x) : ∃ m', f_Mo_composes_l36 0 m (nI s) (nI e) (nI t) (m, nI (t + 1)) = some (Sum.inl (m', nI (t + 1))) ∧ TI m0 m' (fdN (t + 1) 6 (fun f b => tW s e t f b) x) := by
  unfold f_Mo_composes_l36
  refine loop_tb (body := fun y : HP × Int32 => f_Mo_composes_b36 0 y.1 (nI s) (nI e) (nI t) y.2) (by omega) (fun f b => tW s e t f b) (TI m0) (fun m => Sum.inl (m, nI (t + 1))) (fun f m' z hg1 hf hI => ?_) (fun m' => ?_) h0
  · obtain ⟨m2, e2, I2⟩ := M_cw hs he ht hf hI
    refine ⟨m2, ?_, I2⟩
    show f_Mo_composes_b36 0 m' (nI s) (nI e) (nI t) (nI f) = _
    unfold f_Mo_composes_b36
    rw [if_neg (show ¬ (6 : Int32) ≤ nI f from nI_ge (b := 6) hf (by decide)), e2, nI_1]; rfl
  · show f_Mo_composes_b36 0 m' (nI s) (nI e) (nI t) (nI 6) = _
    unfold f_Mo_composes_b36
    rw [if_pos (show (6 : Int32) ≤ nI 6 from nle 6), nI_1]; rfl
set_option maxHeartbeats 400000 in
theorem M_c25 (hs : s < 6) (he : e < 6) (h0 : TI m0 m x) : ∃ m', f_Mo_composes_l25 0 m (nI s) (nI e) (m, 0) = some (Sum.inl (m', nI (e + 1))) ∧ TI m0 m' (fdN 0 6 (fun t a => fdN (t + 1) 6 (fun f b => tW s e t f b) a) x) := by
  unfold f_Mo_composes_l25
  refine loop_tb (body := fun y : HP × Int32 => f_Mo_composes_b25 0 y.1 (nI s) (nI e) y.2) (a := 0) (n := 6) (by omega) (fun t a => fdN (t + 1) 6 (fun f b => tW s e t f b) a) (TI m0) (fun m => Sum.inl (m, nI (e + 1))) (fun t m' z hg1 ht hI => ?_) (fun m' => ?_) h0
  · show ∃ m2, f_Mo_composes_b25 0 m' (nI s) (nI e) (nI t) = _ ∧ _
    unfold f_Mo_composes_b25
    rw [if_neg (show ¬ (6 : Int32) ≤ nI t from nI_ge (b := 6) ht (by decide)), nI_1]
    exact M_c36 hs he ht hI
  · show f_Mo_composes_b25 0 m' (nI s) (nI e) (nI 6) = _
    unfold f_Mo_composes_b25
    rw [if_pos (show (6 : Int32) ≤ nI 6 from nle 6), nI_1]; rfl
set_option maxHeartbeats 400000 in
theorem M_c17 (hs : s < 6) (h0 : TI m0 m x) : ∃ m', f_Mo_composes_l17 0 m (nI s) (m, nI (s + 1)) = some (Sum.inl (m', nI (s + 1))) ∧ TI m0 m' (fdN (s + 1) 6 (fun e z => fdN 0 6 (fun t a => fdN (t + 1) 6 (fun f b => tW s e t f b) a) z) x) := by
  unfold f_Mo_composes_l17
  refine loop_tb (body := fun y : HP × Int32 => f_Mo_composes_b17 0 y.1 (nI s) y.2) (by omega) (fun e z => fdN 0 6 (fun t a => fdN (t + 1) 6 (fun f b => tW s e t f b) a) z) (TI m0) (fun m => Sum.inl (m, nI (s + 1))) (fun e m' z hg1 he hI => ?_) (fun m' => ?_) h0
  · show ∃ m2, f_Mo_composes_b17 0 m' (nI s) (nI e) = _ ∧ _
    unfold f_Mo_composes_b17
    rw [if_neg (show ¬ (6 : Int32) ≤ nI e from nI_ge (b := 6) he (by decide))]
    exact M_c25 hs he hI
  · show f_Mo_composes_b17 0 m' (nI s) (nI 6) = _
    unfold f_Mo_composes_b17
    rw [if_pos (show (6 : Int32) ≤ nI 6 from nle 6), nI_1]; rfl
set_option maxHeartbeats 400000 in
theorem M_composes (hz : ∀ j, j < 169 → m.1 9 j = 0) : ∃ m', f_Mo_composes 0 m = some m' ∧ TBl m' ∧ m'.1 0 12 = 1 ∧ (∀ j, j ≠ 12 → m'.1 0 j = m.1 0 j) ∧ ∀ a, a ≠ 0 → a ≠ 9 → m'.1 a = m.1 a := by
  have key : ∃ m', f_Mo_composes_l7 0 (upI m 0 12 1) (upI m 0 12 1, 0) = some m' ∧ TI (upI m 0 12 1) m' (tAll 0) := by
    unfold f_Mo_composes_l7
    refine loop_tb (body := fun y : HP × Int32 => f_Mo_composes_b7 0 y.1 y.2) (a := 0) (n := 6) (by omega) (fun s y => fdN (s + 1) 6 (fun e z => fdN 0 6 (fun t a => fdN (t + 1) 6 (fun f b => tW s e t f b) a) z) y) (TI (upI m 0 12 1)) id (fun s m' z hg1 hs hI => ?_) (fun m' => ?_) ⟨fun j hj => ?_, fun _ _ => rfl⟩
    · show ∃ m2, f_Mo_composes_b7 0 m' (nI s) = _ ∧ _
      unfold f_Mo_composes_b7
      rw [if_neg (show ¬ (6 : Int32) ≤ nI s from nI_ge (b := 6) hs (by decide)), nI_1]
      exact M_c17 hs hI
    · show f_Mo_composes_b7 0 m' (nI 6) = _
      unfold f_Mo_composes_b7
      rw [if_pos (show (6 : Int32) ≤ nI 6 from nle 6)]; rfl
    · rw [upI_ne _ _ _ _ (by decide), hz j hj, Nat.zero_div]; rfl
  obtain ⟨m', e, I⟩ := key
  refine ⟨m', e, fun j hj => ?_, ?_, fun j hj => ?_, fun a h1 h2 => ?_⟩
  · rw [I.1 j hj, tAll_ok j hj, cmpN_ok j hj]
  · rw [I.2 0 (by decide), upI_s, if_pos rfl]
  · rw [I.2 0 (by decide), upI_s, if_neg hj]
  · rw [I.2 a h2, upI_at _ _ _ _ h1]
/-- the reference's table: not made yet, or made -/
def CC (m : HP) : Prop := (m.1 0 12 = 0 ∧ ∀ j, j < 169 → m.1 9 j = 0) ∨ (m.1 0 12 = 1 ∧ TBl m)
set_option maxHeartbeats 400000 in
theorem M_composedOf (C : CC m) (u v : Int32) : ∃ m', f_Mo_composedOf 0 m u v = some (m', cmS u v) ∧ CC m' ∧ (∀ j, j ≠ 12 → m'.1 0 j = m.1 0 j) ∧ ∀ a, a ≠ 0 → a ≠ 9 → m'.1 a = m.1 a := by
  unfold f_Mo_composedOf
  rcases C with ⟨c1, c2⟩ | ⟨c1, c2⟩
  · obtain ⟨m', e, T, f1, f2, f3⟩ := M_composes c2
    rw [if_pos c1]
    exact ⟨m', bsome e (M_comp16 T u v), Or.inr ⟨f1, T⟩, f2, f3⟩
  · rw [if_neg (by rw [c1]; decide), M_comp16 c2 u v]
    exact ⟨m, rfl, Or.inr ⟨c1, c2⟩, fun _ _ => rfl, fun _ _ _ => rfl⟩
end TC
set_option maxHeartbeats 400000 in
/-- both compose alike; the reference may make its table -/
theorem q_compose {h m : HP} (C : CC m) (v1 v2 : Int32) : ∃ r m', f_TJ_compose 0 h v1 v2 = some r ∧ f_Mo_compose 0 m v1 v2 = some (m', r) ∧ CC m' ∧ (∀ j, j ≠ 12 → m'.1 0 j = m.1 0 j) ∧ ∀ a, a ≠ 0 → a ≠ 9 → m'.1 a = m.1 a := by
  unfold f_TJ_compose f_Mo_compose
  rw [X_isSet, X_isSet, M_isKinds, M_isKinds, X_composed]
  simp only [Option.bind_some]
  by_cases z : 0 ≤ v1 ∧ v1 ≤ 8191
  · rw [if_pos z, if_neg one0, if_neg one0]
    by_cases y : 0 ≤ v2 ∧ v2 ≤ 8191
    · rw [if_pos y, if_neg one0, if_neg one0]
      obtain ⟨m', e, c, f1, f2⟩ := M_composedOf C v1 v2
      exact ⟨_, m', rfl, bsome e rfl, c, f1, f2⟩
    · rw [if_neg y, if_pos rfl, if_pos rfl]
      exact ⟨_, m, rfl, rfl, C, fun _ _ => rfl, fun _ _ _ => rfl⟩
  · rw [if_neg z, if_pos rfl, if_pos rfl]
    exact ⟨_, m, rfl, rfl, C, fun _ _ => rfl, fun _ _ _ => rfl⟩
