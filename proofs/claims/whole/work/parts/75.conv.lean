/-! sets of kinds: turned round, put one behind another -/
def cvT (v : Int32) : Int32 := fI (fun k (x : Int32) => if bit v (nI k) then x ||| (1 <<< ((12 - nI k) &&& 31)) else x) 13 0
set_option maxHeartbeats 400000 in
theorem X_turned (v : Int32) : f_TJ_turned v = some (cvT v) := by
  unfold f_TJ_turned f_TJ_turned_l4 cvT
  refine loop_for 13 (fun k (x : Int32) => if bit v (nI k) then x ||| (1 <<< ((12 - nI k) &&& 31)) else x) 0 _ (fun k x hk => ?_) ?_
  · unfold f_TJ_turned_b4
    rw [if_neg (show ¬ (13 : Int32) ≤ nI k from nI_ge (b := 13) hk (by decide)), X_holds, nI_1]
    simp only [Option.bind_some]
    by_cases z : bit v (nI k) = true
    · rw [if_pos z, if_neg one0, if_pos z]
    · rw [if_neg z, if_pos rfl, if_neg z]
  · unfold f_TJ_turned_b4
    rw [if_pos (show (13 : Int32) ≤ nI 13 from nle 13)]; rfl
set_option maxHeartbeats 400000 in
theorem shl0 : ∀ k, k < 13 → ((0 : Int32) <<< ((12 - nI k) &&& 31)) = 0 := by decide +kernel
set_option maxHeartbeats 400000 in
theorem M_conv (v : Int32) : f_Mo_converseOf v = some (cvT v) := by
  unfold f_Mo_converseOf f_Mo_converseOf_l4 cvT
  refine loop_for 13 (fun k (x : Int32) => if bit v (nI k) then x ||| (1 <<< ((12 - nI k) &&& 31)) else x) 0 _ (fun k x hk => ?_) ?_
  · unfold f_Mo_converseOf_b4
    rw [if_neg (show ¬ (13 : Int32) ≤ nI k from nI_ge (b := 13) hk (by decide)), nI_1]
    unfold bit
    simp only [decide_eq_true_eq]
    rcases and1 (v >>> (nI k &&& 31)) with z | z
    · rw [z, shl0 k hk, if_neg (by decide), Int32.or_zero]
    · rw [z, if_pos rfl]
  · unfold f_Mo_converseOf_b4
    rw [if_pos (show (13 : Int32) ≤ nI 13 from nle 13)]; rfl
set_option maxHeartbeats 400000 in
theorem X_isSet (v : Int32) : f_TJ_isSet v = some (if 0 ≤ v ∧ v ≤ 8191 then 1 else 0) := by
  unfold f_TJ_isSet
  by_cases a : v < 0
  · rw [if_pos a, if_neg (fun z => absurd z.1 (Int32.not_le.mpr a))]
  · rw [if_neg a]
    by_cases b : 8191 < v
    · rw [if_pos b, if_neg (fun z => absurd z.2 (Int32.not_le.mpr b))]
    · rw [if_neg b, if_pos (show 0 ≤ v ∧ v ≤ 8191 from ⟨Int32.not_lt.mp a, Int32.not_lt.mp b⟩)]
set_option maxHeartbeats 400000 in
theorem M_isKinds (v : Int32) : f_Mo_isKinds v = some (if 0 ≤ v ∧ v ≤ 8191 then 1 else 0) := by
  unfold f_Mo_isKinds
  rw [M_isIn]
  simp only [Option.bind_some]
  by_cases z : 0 ≤ v ∧ v ≤ 8191
  · rw [if_pos z, if_pos (Or.inr rfl)]
  · rw [if_neg z, if_pos (Or.inl rfl)]
set_option maxHeartbeats 400000 in
theorem q_converse (h m : HP) (v1 : Int32) : ∃ r, f_TJ_converse 0 h v1 = some r ∧ f_Mo_converse 0 m v1 = some r := by
  unfold f_TJ_converse f_Mo_converse
  rw [X_isSet, M_isKinds, X_turned, M_conv]
  simp only [Option.bind_some]
  by_cases z : 0 ≤ v1 ∧ v1 ≤ 8191
  · rw [if_pos z, if_neg one0]; exact ⟨_, rfl, rfl⟩
  · rw [if_neg z, if_pos rfl]; exact ⟨_, rfl, rfl⟩
/-- one kind put before a set -/
noncomputable def cmO (a : Nat) (v : Int32) : Int32 := fI (fun b (x : Int32) => if bit v (nI b) then x ||| cmpT (13 * a + b) else x) 13 0
noncomputable def cmS (u v : Int32) : Int32 := fI (fun a (x : Int32) => if bit u (nI a) then x ||| cmO a v else x) 13 0
set_option maxHeartbeats 400000 in
theorem X_one (a : Nat) (ha : a < 13) (v : Int32) : f_TJ_composedOfOne (nI a) v = some (cmO a v) := by
  unfold f_TJ_composedOfOne f_TJ_composedOfOne_l4 cmO
  refine loop_for 13 (fun b (x : Int32) => if bit v (nI b) then x ||| cmpT (13 * a + b) else x) 0 _ (fun b x hb => ?_) ?_
  · have l : nI a * 13 + nI b = nI (13 * a + b) := by rw [show nI a * 13 = nI (a * 13) from pk_mul a 13, nI_add, Nat.mul_comm]
    unfold f_TJ_composedOfOne_b4
    rw [if_neg (show ¬ (13 : Int32) ≤ nI b from nI_ge (b := 13) hb (by decide)), X_holds, nI_1, l, if_pos (inb_nI (show 13 * a + b < 169 by omega) (by decide)), ix_nI (by omega)]
    by_cases z : bit v (nI b) = true
    · rw [if_pos z, if_pos z]; exact bsome rfl (if_neg one0)
    · rw [if_neg z, if_neg z]; exact bsome rfl (if_pos rfl)
  · unfold f_TJ_composedOfOne_b4
    rw [if_pos (show (13 : Int32) ≤ nI 13 from nle 13)]; rfl
set_option maxHeartbeats 400000 in
theorem X_composed (u v : Int32) : f_TJ_composed u v = some (cmS u v) := by
  unfold f_TJ_composed f_TJ_composed_l4 cmS
  refine loop_for 13 (fun a (x : Int32) => if bit u (nI a) then x ||| cmO a v else x) 0 _ (fun a x ha => ?_) ?_
  · unfold f_TJ_composed_b4
    rw [if_neg (show ¬ (13 : Int32) ≤ nI a from nI_ge (b := 13) ha (by decide)), X_holds, nI_1, X_one a ha v]
    by_cases z : bit u (nI a) = true
    · rw [if_pos z, if_pos z]; exact bsome rfl ((if_neg one0).trans (bsome rfl rfl))
    · rw [if_neg z, if_neg z]; exact bsome rfl (if_pos rfl)
  · unfold f_TJ_composed_b4
    rw [if_pos (show (13 : Int32) ≤ nI 13 from nle 13)]; rfl
set_option maxHeartbeats 400000 in
theorem fI_or {p : Nat → Bool} {c : Nat → Int32} {x0 : Int32} : ∀ n, fI (fun b (x : Int32) => if p b then x ||| c b else x) n x0 = x0 ||| fI (fun b (x : Int32) => if p b then x ||| c b else x) n 0
  | 0 => by simp only [fI]; rw [Int32.or_zero]
  | n + 1 => by
    simp only [fI]
    rw [fI_or n]
    by_cases z : p n = true
    · rw [if_pos z, if_pos z, Int32.or_assoc]
    · rw [if_neg z, if_neg z]
/-- the reference's table is made -/
def TBl (m : HP) : Prop := ∀ j, j < 169 → m.1 9 j = cmpT j
set_option maxHeartbeats 400000 in
theorem M_comp16 {m : HP} (T : TBl m) (u v : Int32) : f_Mo_composedOf_l16 0 m u v (0, 0) = some (m, cmS u v) := by
  unfold f_Mo_composedOf_l16 cmS
  refine loop_for 13 (fun a (x : Int32) => if bit u (nI a) then x ||| cmO a v else x) 0 _ (fun a x ha => ?_) ?_
  · unfold f_Mo_composedOf_b16 f_Mo_composedOf_l26
    rw [if_neg (show ¬ (13 : Int32) ≤ nI a from nI_ge (b := 13) ha (by decide))]
    have eq : (if bit u (nI a) then x ||| cmO a v else x) = fI (fun b (y : Int32) => if (bit u (nI a) && bit v (nI b)) then y ||| cmpT (13 * a + b) else y) 13 x := by
      by_cases z : bit u (nI a) = true
      · rw [if_pos z, fI_or]
        unfold cmO
        congr 1
        exact fI_congr 13 (fun b y _ => by rw [z, Bool.true_and])
      · rw [if_neg z, fI_or]
        have zz : ∀ n, fI (fun b (y : Int32) => if (bit u (nI a) && bit v (nI b)) then y ||| cmpT (13 * a + b) else y) n 0 = 0 := fun n => by
          induction n with
          | zero => rfl
          | succ n ih =>
            simp only [fI]
            rw [ih, Bool.eq_false_iff.mpr z, Bool.false_and]; rfl
        rw [zz, Int32.or_zero]
    rw [eq]
    refine loop_for 13 (fun b (y : Int32) => if (bit u (nI a) && bit v (nI b)) then y ||| cmpT (13 * a + b) else y) x _ (fun b y hb => ?_) ?_
    · have l : (13 : Int32) * nI a + nI b = nI (13 * a + b) := by rw [show (13 : Int32) * nI a = nI (13 * a) from pk_mul 13 a, nI_add]
      show f_Mo_composedOf_b26 0 m u v (nI a) y (nI b) = some (Sum.inl ((if (bit u (nI a) && bit v (nI b)) then y ||| cmpT (13 * a + b) else y), nI (b + 1)))
      unfold f_Mo_composedOf_b26
      rw [if_neg (show ¬ (13 : Int32) ≤ nI b from nI_ge (b := 13) hb (by decide)), M_has, M_has, nI_1, l, if_pos (inb_nI (show 13 * a + b < 169 by omega) (by decide)), ix_nI (by omega), Nat.zero_add, T _ (by omega)]
      by_cases z : bit u (nI a) = true
      · by_cases y' : bit v (nI b) = true
        · rw [if_pos z, if_pos y', z, y', Bool.true_and, if_pos rfl]
          exact bsome rfl ((if_neg one0).trans (bsome rfl (if_neg one0)))
        · rw [if_pos z, if_neg y', Bool.eq_false_iff.mpr y', Bool.and_false, if_neg (show ¬ (false = true) by decide)]
          exact bsome rfl ((if_neg one0).trans (bsome rfl (if_pos rfl)))
      · rw [if_neg z, Bool.eq_false_iff.mpr z, Bool.false_and, if_neg (show ¬ (false = true) by decide)]
        exact bsome rfl (if_pos rfl)
    · unfold f_Mo_composedOf_b26
      rw [if_pos (show (13 : Int32) ≤ nI 13 from nle 13), nI_1]; rfl
  · unfold f_Mo_composedOf_b16
    rw [if_pos (show (13 : Int32) ≤ nI 13 from nle 13)]; rfl
