/-! steps: the parts of a key -/
noncomputable def nth (p : Nat → Bool) (c : Nat) : Nat := Classical.epsilon (fun j => p j = true ∧ cN p j = c)
set_option maxHeartbeats 400000 in
theorem nth_at {p : Nat → Bool} {j : Nat} (h : p j = true) : nth p (cN p j) = j := by
  have s : p (nth p (cN p j)) = true ∧ cN p (nth p (cN p j)) = cN p j := Classical.epsilon_spec (p := fun i => p i = true ∧ cN p i = cN p j) ⟨j, h, rfl⟩
  rcases Nat.lt_trichotomy (nth p (cN p j)) j with z | z | z
  · have := cN_lt z s.1; omega
  · exact z
  · have := cN_lt z h; omega
set_option maxHeartbeats 400000 in
theorem X_pput2 {h h' : HP} {a b c d e : Int32} (g : f_Pa_put 34 h a b c d e = some h') : h'.2 = h.2 := by
  unfold f_Pa_put at g
  split at g
  · cases g; rfl
  · split at g
    · split at g
      · split at g
        · split at g
          · split at g
            · cases g; rfl
            · cases g
          · cases g
        · cases g
      · cases g
    · cases g
def stP (w : Nat → Int32) (key : Int32) (d : Nat → Int32) (j : Nat) : Bool := decide (0 < cntN w key (d j))
noncomputable def stF (w : Nat → Int32) (key : Int32) (d : Nat → Int32) (c i : Nat) : Int32 := cel (tmO (d (nth (stP w key d) c))) (tmO (d (nth (stP w key d) c + 1))) (nI (cntN w key (d (nth (stP w key d) c)))) (valK w key (d (nth (stP w key d) c))) 0 i
set_option maxHeartbeats 400000 in
theorem PW.cg2 {h : HP} {n : Nat} {F G : Nat → Nat → Int32} (P : PW h n F) (e : ∀ k, k < n → ∀ j, F k j = G k j) : PW h n G := ⟨P.1, P.2.1, fun k hk j hj => (P.2.2 k hk j hj).trans (e k hk j)⟩
set_option maxHeartbeats 400000 in
theorem CW.fp {h h' : HP} {n : Nat} {f : Nat → Int64} (C : CW h 32 n f) (F : fr [34, 35] h h') (e : h'.2 = h.2) : CW h' 32 n f := ⟨C.1, by rw [F 32 (by decide)]; exact C.2.1, fun i hi => by rw [e]; exact C.2.2 i hi⟩
set_option maxHeartbeats 400000 in
theorem X_valK {h : HP} {w : Nat → Int32} (V : SV h 1 w) (k pl : Int32) : ∃ a b, f_Ro_valuesThere 2 h k pl = some a ∧ f_Ro_valuesThere 8 h k pl = some b ∧ a + b = valK w k pl :=
  ⟨_, _, X_valuesThere V.2.2.1 k pl, X_valuesThere V.2.2.2 k pl, rfl⟩
set_option maxHeartbeats 400000 in
theorem t3264 (v : Int32) : v.toInt64.toInt32 = v := Int32.toInt32_toInt64 v
set_option maxHeartbeats 400000 in
/-- the class's walk -/
theorem X_stepsWalk {h : HP} {w : Nat → Int32} (V : SV h 1 w) (R : RowsOk w) {key : Int32} {n k : Nat} {G d : Nat → Int32} (C : CW h 32 n (fun i => (G i).toInt64)) (hs : ∀ i j, i < j → j < n → (G i).toInt ≤ (G j).toInt) (S : SE (fun j => (d j).toInt) k (fun x => ∃ i, i < n ∧ (G i).toInt = x)) (P : PW h 0 (stF w key d)) (v2 v3 : Int32) : ∃ h', f_TJ_steps_l64 0 h key v2 v3 (h, 1) = (if v2 = -1 then some (h', nI (cN (stP w key d) (k - 1))) else (f_Pa_answer 34 h' v2 v3 4).bind fun r => some (h', r)) ∧ PW h' (cN (stP w key d) (k - 1)) (stF w key d) ∧ fr [34, 35] h h' := by
  have hn := C.1
  have ind := G_ind (G := fun i => (G i).toInt) (d := fun j => (d j).toInt) hs S
  have kn : indG (fun i => (G i).toInt) (n - 1) = k - 1 := by
    rcases Nat.eq_zero_or_pos n with z | z
    · have hk : k = 0 := by
        rcases Nat.eq_zero_or_pos k with y | y
        · exact y
        · obtain ⟨i, hi, _⟩ := S.2.1 0 y; omega
      rw [z, hk]; rfl
    · have := G_last (G := fun i => (G i).toInt) (d := fun j => (d j).toInt) hs S z; omega
  unfold f_TJ_steps_l64
  have key1 := loop_inv (body := fun x : HP × Int32 => f_TJ_steps_b64 0 x.1 key v2 v3 x.2) (fun i (x : HP × Int32) => x.2 = nI (i + 1) ∧ PW x.1 (cN (stP w key d) (indG (fun i => (G i).toInt) i)) (stF w key d) ∧ fr [34, 35] h x.1 ∧ x.1.2 = h.2) (n - 1) (fun t : HP × Int32 => ∃ h', some t = (if v2 = -1 then some (h', nI (cN (stP w key d) (k - 1))) else (f_Pa_answer 34 h' v2 v3 4).bind fun r => some (h', r)) ∧ PW h' (cN (stP w key d) (k - 1)) (stF w key d) ∧ fr [34, 35] h h') (fun i x hi hI => ?_) (fun x hI => ?_) (h, 1) ⟨rfl, P, fr.rf, rfl⟩
  · obtain ⟨t, e, h', a, b, c⟩ := key1
    exact ⟨h', by rw [e, a], b, c⟩
  · obtain ⟨hx, v5⟩ := x
    obtain ⟨e5, P, F, e2⟩ := hI
    replace e5 : v5 = nI (i + 1) := e5
    replace P : PW hx (cN (stP w key d) (indG (fun i => (G i).toInt) i)) (stF w key d) := P
    replace F : fr [34, 35] h hx := F
    replace e2 : hx.2 = h.2 := e2
    subst e5
    have C1 := C.fp F e2
    have V1 := V.fr F (by decide)
    obtain ⟨ik, id⟩ := ind i (by omega)
    obtain ⟨ik1, id1⟩ := ind (i + 1) (by omega)
    replace id : d (indG (fun i => (G i).toInt) i) = G i := Int32.toInt_inj.mp id
    replace id1 : d (indG (fun i => (G i).toInt) (i + 1)) = G (i + 1) := Int32.toInt_inj.mp id1
    have is : indG (fun i => (G i).toInt) (i + 1) = indG (fun i => (G i).toInt) i + (if decide ((G i).toInt < (G (i + 1)).toInt) then 1 else 0) := rfl
    have il : indG (fun i => (G i).toInt) i ≤ i := cN_le _ i
    have cl := cN_le (stP w key d) (indG (fun i => (G i).toInt) i)
    show ∃ s', f_TJ_steps_b64 0 hx key v2 v3 (nI (i + 1)) = some (.inl s') ∧ _
    unfold f_TJ_steps_b64
    simp only [Nat.zero_add, C1.2.1, if_neg (show ¬ nI n ≤ nI (i + 1) from nI_ge (by omega) (by omega)), show nI (i + 1) - 1 = nI i from pk_sub (b := 1) (by omega), X_cat C1 (show i < n by omega), X_cat C1 (show i + 1 < n by omega), Option.bind_some, t3264, X_cntK V1, cntK_N]
    generalize hj : indG (fun i => (G i).toInt) i = j at *
    generalize hj1 : indG (fun i => (G i).toInt) (i + 1) = j1 at *
    by_cases le : G (i + 1) ≤ G i
    · have nl : ¬ (G i).toInt < (G (i + 1)).toInt := by have := Int32.le_iff_toInt_le.mp le; omega
      have ej : j1 = j := by rw [is, decide_eq_false nl]; rfl
      refine ⟨(hx, nI (i + 2)), ?_, rfl, ?_, F, e2⟩
      · simp only [if_pos le]
        unfold f_TJ_steps_j120
        simp only [if_pos (Int32.le_refl 0), nI_1]
      · show PW hx (cN (stP w key d) j1) _
        rw [ej]; exact P
    · have nl : (G i).toInt < (G (i + 1)).toInt := by
        have : ¬ (G (i + 1)).toInt ≤ (G i).toInt := fun z => le (Int32.le_iff_toInt_le.mpr z)
        omega
      have ej : j1 = j + 1 := by rw [is, decide_eq_true nl]; rfl
      simp only [if_neg le]
      unfold f_TJ_steps_j120
      by_cases z : cntN w key (G i) = 0
      · refine ⟨(hx, nI (i + 2)), ?_, rfl, ?_, F, e2⟩
        · rw [z]; simp only [if_pos (show nI 0 ≤ 0 from Int32.le_refl 0), nI_1]
        · show PW hx (cN (stP w key d) j1) _
          rw [ej]
          have : stP w key d j = false := by unfold stP; rw [id, z]; rfl
          show PW hx (cN (stP w key d) j + (if stP w key d j then 1 else 0)) _
          rw [this]; exact P
      · have pj : stP w key d j = true := by unfold stP; rw [id]; exact decide_eq_true (by omega)
        have cb := cntN_le R key (G i)
        obtain ⟨va, vb, ea, eb, ev⟩ := X_valK V1 key (G i)
        obtain ⟨h', eh, P', F'⟩ := X_pput P (by omega) (tmO (G i)) (tmO (G (i + 1))) (nI (cntN w key (G i))) (va + vb) 0
        refine ⟨(h', nI (i + 2)), ?_, rfl, ?_, F.tr F', (X_pput2 eh).trans e2⟩
        · simp only [if_neg (show ¬ nI (cntN w key (G i)) ≤ 0 from nI_ge (b := cntN w key (G i)) (a := 0) (by omega) (by omega)), Nat.reduceAdd, ea, eb, X_timeOf, Option.bind_some, nI_1]
          rw [show f_Pa_put 34 hx (G i >>> (1 &&& 31)) (G (i + 1) >>> (1 &&& 31)) (nI (cntN w key (G i))) (va + vb) 0 = some h' from eh]
          rfl
        · show PW h' (cN (stP w key d) j1) _
          rw [ej]
          show PW h' (cN (stP w key d) j + (if stP w key d j then 1 else 0)) _
          rw [pj]
          refine P'.cg2 (fun c hc i' => ?_)
          by_cases e : c = cN (stP w key d) j
          · rw [if_pos e]; unfold stF
            rw [e, nth_at pj, id, ← ej, id1, ev]
          · rw [if_neg e]
  · obtain ⟨hx, v5⟩ := x
    obtain ⟨e5, P, F, e2⟩ := hI
    replace e5 : v5 = nI (n - 1 + 1) := e5
    replace P : PW hx (cN (stP w key d) (indG (fun i => (G i).toInt) (n - 1))) (stF w key d) := P
    replace F : fr [34, 35] h hx := F
    replace e2 : hx.2 = h.2 := e2
    subst e5
    rw [kn] at P
    have C1 := C.fp F e2
    show ∃ t, f_TJ_steps_b64 0 hx key v2 v3 (nI (n - 1 + 1)) = some (.inr t) ∧ _
    unfold f_TJ_steps_b64
    simp only [Nat.zero_add, C1.2.1, if_pos (show nI n ≤ nI (n - 1 + 1) from nI_le (by omega) (by omega)), P.2.1]
    by_cases z : v2 = -1
    · refine ⟨_, by simp only [if_pos z]; rfl, hx, by simp only [if_pos z], P, F⟩
    · rcases X_pans P v2 v3 (c := 4) (by omega) (vc := 4) rfl with ⟨c, j, _, _, _, _, e⟩ | ⟨_, e⟩
      · refine ⟨_, by simp only [if_neg z, e, Option.bind_some]; rfl, hx, by simp only [if_neg z, e, Option.bind_some], P, F⟩
      · refine ⟨_, by simp only [if_neg z, e, Option.bind_some]; rfl, hx, by simp only [if_neg z, e, Option.bind_some], P, F⟩
