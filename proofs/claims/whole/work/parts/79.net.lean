/-! the net: told alike, turned round alike -/
def NetOk (N : Nat → Nat) : Prop := (∀ j, j < 36 → N j < 8192) ∧ (∀ i k, i < 6 → k < 6 → N (6 * k + i) = cwN (N (6 * i + k))) ∧ ∀ i, i < 6 → N (6 * i + i) = 64
def clsd (C : Nat → Nat) : Prop := ∀ i j k, i < 6 → j < 6 → k < 6 → i ≠ j → j ≠ k → i ≠ k → sub (C (6 * i + k)) (cpN (C (6 * i + j)) (C (6 * j + k)))
/-- the greatest net within N that is closed -/
def GR (N C : Nat → Nat) : Prop := (∀ j, j < 36 → C j < 8192) ∧ (∀ j, j < 36 → sub (C j) (N j)) ∧ clsd C ∧ ∀ M : Nat → Nat, (∀ j, j < 36 → M j < 8192) → clsd M → (∀ j, j < 36 → sub (M j) (N j)) → ∀ j, j < 36 → sub (M j) (C j)
set_option maxHeartbeats 400000 in
theorem GR_uniq {N C C' : Nat → Nat} (a : GR N C) (b : GR N C') : ∀ j, j < 36 → C j = C' j := fun j hj =>
  sub.eq (a.1 j hj) (b.1 j hj) (b.2.2.2 C a.1 a.2.2.1 a.2.1 j hj) (a.2.2.2 C' b.1 b.2.2.1 b.2.1 j hj)
def NV (h : HP) (b : Nat) (w : Nat → Int32) : Prop := ∃ N, NetOk N ∧ (∀ j, j < 36 → w (4064 + j) = nI (N j) ∧ h.1 (b + 29) j = nI (N j)) ∧ (h.1 (b + 28) 2 = 0 ∨ (h.1 (b + 28) 2 = 1 ∧ ∃ C, GR N C ∧ ∀ j, j < 36 → h.1 (b + 30) j = nI (C j)))
set_option maxHeartbeats 400000 in
theorem NV.cg {h h' : HP} {b : Nat} {w w' : Nat → Int32} (V : NV h b w) (e : ∀ a, b + 28 ≤ a → a ≤ b + 30 → h'.1 a = h.1 a) (ew : ∀ j, j < 36 → w' (4064 + j) = w (4064 + j)) : NV h' b w' := by
  obtain ⟨N, n1, n2, n3⟩ := V
  refine ⟨N, n1, fun j hj => ?_, ?_⟩
  · rw [ew j hj, e (b + 29) (by omega) (by omega)]; exact n2 j hj
  · rw [e (b + 28) (by omega) (by omega), e (b + 30) (by omega) (by omega)]; exact n3
/-- both do alike at the net -/
def AlikeN (h m : HP) (x y : Option (HP × Int32)) : Prop := ∃ h' m' r, x = some (h', r) ∧ y = some (m', r) ∧ NV h' 1 (m'.1 1) ∧ (∀ a, (a < 29 ∨ 31 < a) → h'.1 a = h.1 a) ∧ (∀ j, j < 4064 → m'.1 1 j = m.1 1 j) ∧ m'.1 2 = m.1 2 ∧ (∀ j, j ≠ 12 → m'.1 0 j = m.1 0 j) ∧ CC m'
def tie (N : Nat → Nat) (i k x : Nat) : Nat → Nat := fun j => if j = 6 * k + i then cwN x else if j = 6 * i + k then x else N j
set_option maxHeartbeats 400000 in
theorem tie_ok {N : Nat → Nat} {i k x : Nat} (H : NetOk N) (hi : i < 6) (hk : k < 6) (ne : i ≠ k) (hx : x < 8192) : NetOk (tie N i k x) := by
  refine ⟨fun j hj => ?_, fun a b ha hb => ?_, fun a ha => ?_⟩
  · unfold tie
    by_cases z : j = 6 * k + i
    · rw [if_pos z]; exact cwN_lt _
    · rw [if_neg z]
      by_cases y : j = 6 * i + k
      · rw [if_pos y]; exact hx
      · rw [if_neg y]; exact H.1 j hj
  · unfold tie
    by_cases z : 6 * b + a = 6 * k + i
    · rw [if_pos z, if_neg (by omega), if_pos (by omega)]
    · rw [if_neg z]
      by_cases y : 6 * b + a = 6 * i + k
      · rw [if_pos y, if_pos (by omega), cwN_cvN hx]
      · rw [if_neg y, if_neg (by omega), if_neg (by omega)]; exact H.2.1 a b ha hb
  · unfold tie
    rw [if_neg (by omega), if_neg (by omega)]; exact H.2.2 a ha
set_option maxHeartbeats 400000 in
theorem X_isName (v : Int32) : f_TJ_isName v = some (if 0 ≤ v ∧ v ≤ 5 then 1 else 0) := by
  unfold f_TJ_isName
  by_cases a : v < 0
  · rw [if_pos a, if_neg (fun z => absurd z.1 (Int32.not_le.mpr a))]
  · rw [if_neg a]
    by_cases b : 6 ≤ v
    · rw [if_pos b, if_neg (fun z => absurd (Int32.le_trans b z.2) (by decide))]
    · have c : v ≤ 5 := by
        have b := Int32.lt_iff_toInt_lt.mp (Int32.not_le.mp b)
        rw [Int32.le_iff_toInt_le]
        rw [show (6 : Int32).toInt = 6 from rfl] at b
        rw [show (5 : Int32).toInt = 5 from rfl]
        omega
      rw [if_neg b, if_pos (show 0 ≤ v ∧ v ≤ 5 from ⟨Int32.not_lt.mp a, c⟩)]
set_option maxHeartbeats 400000 in
theorem M_isName (v : Int32) : f_Mo_isName v = some (if 0 ≤ v ∧ v ≤ 5 then 1 else 0) := by
  unfold f_Mo_isName
  rw [M_isIn]
  simp only [Option.bind_some]
  by_cases z : 0 ≤ v ∧ v ≤ 5
  · rw [if_pos z, if_pos (Or.inr rfl)]
  · rw [if_neg z, if_pos (Or.inl rfl)]
set_option maxHeartbeats 400000 in
theorem name_in {v : Int32} (h : 0 ≤ v ∧ v ≤ 5) : ∃ i, i < 6 ∧ v = nI i := by
  obtain ⟨j, hj, rfl⟩ := nI_of (Int32.not_lt.mpr h.1)
  refine ⟨j, ?_, rfl⟩
  rcases Nat.lt_or_ge j 6 with z | z
  · exact z
  · exact absurd h.2 (nI_ge (a := 5) (by omega) hj)
set_option maxHeartbeats 400000 in
theorem set_in {v : Int32} (h : 0 ≤ v ∧ v ≤ 8191) : ∃ x, x < 8192 ∧ v = nI x := by
  obtain ⟨j, hj, rfl⟩ := nI_of (Int32.not_lt.mpr h.1)
  refine ⟨j, ?_, rfl⟩
  rcases Nat.lt_or_ge j 8192 with z | z
  · exact z
  · exact absurd h.2 (nI_ge (a := 8191) (by omega) hj)
set_option maxHeartbeats 400000 in
theorem name1 {i : Nat} (hi : i < 6) : 0 ≤ nI i ∧ nI i ≤ 5 := ⟨nI_pos' (by omega), nI_le (b := 5) (by omega) (by decide)⟩
set_option maxHeartbeats 400000 in
theorem X_tell {h : HP} {i k x : Nat} (hi : i < 6) (hk : k < 6) (hx : x < 8192) : f_We_tell 29 h (nI i) (nI k) (nI x) = some (upI (upI (upI h 30 (6 * i + k) (nI x)) 30 (6 * k + i) (nI (cwN x))) 29 2 0) := by
  have l1 : nI i * 6 + nI k = nI (6 * i + k) := by rw [show nI i * 6 = nI (i * 6) from pk_mul i 6, nI_add, Nat.mul_comm]
  have l2 : nI k * 6 + nI i = nI (6 * k + i) := by rw [show nI k * 6 = nI (k * 6) from pk_mul k 6, nI_add, Nat.mul_comm]
  unfold f_We_tell
  rw [X_isName, X_isName, if_pos (name1 hi), if_pos (name1 hk), X_turned, cvT_nI hx, l1, l2, if_pos (inb_nI (show 6 * i + k < 36 by omega) (by decide)), ix_nI (show 6 * i + k < 2 ^ 31 by omega), ix_nI (show 6 * k + i < 2 ^ 31 by omega)]
  exact bsome rfl ((if_neg one0).trans (bsome rfl ((if_neg one0).trans (bsome rfl (if_pos (inb_nI (show 6 * k + i < 36 by omega) (by decide)))))))
set_option maxHeartbeats 400000 in
theorem M_ties {m : HP} {i k x : Nat} (hi : i < 6) (hk : k < 6) (hx : x < 8192) : f_Mo_ties 0 m (nI i) (nI k) (nI x) = some (upI (upI m 1 (4064 + (6 * i + k)) (nI x)) 1 (4064 + (6 * k + i)) (nI (cwN x))) := by
  have l1 : (4064 : Int32) + 6 * nI i + nI k = nI (4064 + (6 * i + k)) := by rw [show (4064 : Int32) + 6 * nI i = nI (4064 + 6 * i) from lin1 4064 6 i, nI_add, Nat.add_assoc]
  have l2 : (4064 : Int32) + 6 * nI k + nI i = nI (4064 + (6 * k + i)) := by rw [show (4064 : Int32) + 6 * nI k = nI (4064 + 6 * k) from lin1 4064 6 k, nI_add, Nat.add_assoc]
  unfold f_Mo_ties
  rw [M_conv, cvT_nI hx, l1, l2, if_pos (inb_nI (show 4064 + (6 * i + k) < 4100 by omega) (by decide)), ix_nI (show 4064 + (6 * i + k) < 2 ^ 31 by omega), ix_nI (show 4064 + (6 * k + i) < 2 ^ 31 by omega), Nat.zero_add]
  exact bsome rfl (if_pos (inb_nI (show 4064 + (6 * k + i) < 4100 by omega) (by decide)))
set_option maxHeartbeats 400000 in
theorem CC.up {m : HP} {j : Nat} {v : Int32} (C : CC m) : CC (upI m 1 j v) := by
  unfold CC TBl at *
  rw [upI_at _ _ _ _ (show 0 ≠ 1 by decide), upI_at _ _ _ _ (show 9 ≠ 1 by decide)]; exact C
set_option maxHeartbeats 400000 in
theorem q_net {h m : HP} (V : NV h 1 (m.1 1)) (C : CC m) (v1 v2 v3 : Int32) : AlikeN h m (f_TJ_net 0 h v1 v2 v3) (f_Mo_net 0 m v1 v2 v3) := by
  have out : AlikeN h m (some (h, 0)) (some (m, 0)) := ⟨h, m, 0, rfl, rfl, V, fun _ _ => rfl, fun _ _ => rfl, rfl, fun _ _ => rfl, C⟩
  unfold f_TJ_net f_Mo_net
  simp only [Nat.zero_add, Nat.reduceAdd]
  rw [X_isName, X_isName, M_isName, M_isName, X_isSet, M_isKinds]
  simp only [Option.bind_some]
  by_cases a : 0 ≤ v1 ∧ v1 ≤ 5
  · rw [if_pos a, if_neg one0, if_neg one0]
    by_cases b : 0 ≤ v2 ∧ v2 ≤ 5
    · rw [if_pos b, if_neg one0, if_neg one0]
      by_cases c : v1 = v2
      · rw [if_pos c, if_pos c]; exact out
      · rw [if_neg c, if_neg c]
        by_cases d : 0 ≤ v3 ∧ v3 ≤ 8191
        · rw [if_pos d, if_neg one0, if_neg one0]
          obtain ⟨i, hi, rfl⟩ := name_in a
          obtain ⟨k, hk, rfl⟩ := name_in b
          obtain ⟨x, hx, rfl⟩ := set_in d
          have ne : i ≠ k := fun e => c (by rw [e])
          rw [X_tell hi hk hx, M_ties hi hk hx]
          simp only [Option.bind_some]
          obtain ⟨N, n1, n2, -⟩ := V
          refine ⟨_, _, 1, rfl, rfl, ⟨tie N i k x, tie_ok n1 hi hk ne hx, fun j hj => ⟨?_, ?_⟩, Or.inl (by rw [upI_s, if_pos rfl])⟩, fun a ha => ?_, fun j hj => ?_, ?_, fun j hj => ?_, C.up.up⟩
          · unfold tie
            rw [upI_s, upI_s]
            by_cases z : j = 6 * k + i
            · rw [if_pos (by omega), if_pos z]
            · rw [if_neg (by omega), if_neg z]
              by_cases y : j = 6 * i + k
              · rw [if_pos (by omega), if_pos y]
              · rw [if_neg (by omega), if_neg y]; exact (n2 j hj).1
          · unfold tie
            rw [upI_ne _ _ _ _ (by decide), upI_s, upI_s]
            by_cases z : j = 6 * k + i
            · rw [if_pos z, if_pos z]
            · rw [if_neg z, if_neg z]
              by_cases y : j = 6 * i + k
              · rw [if_pos y, if_pos y]
              · rw [if_neg y, if_neg y]; exact (n2 j hj).2
          · rw [upI_at _ _ _ _ (by omega), upI_at _ _ _ _ (by omega), upI_at _ _ _ _ (by omega)]
          · rw [upI_s, if_neg (by omega), upI_s, if_neg (by omega)]
          · rw [upI_at _ _ _ _ (by decide), upI_at _ _ _ _ (by decide)]
          · rw [upI_at _ _ _ _ (by decide), upI_at _ _ _ _ (by decide)]
        · rw [if_neg d, if_pos rfl, if_pos rfl]; exact out
    · rw [if_neg b, if_pos rfl, if_pos rfl]; exact out
  · rw [if_neg a, if_pos rfl, if_pos rfl]; exact out
