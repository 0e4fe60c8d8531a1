/-! steps: the reference's walk, and both -/
def stA (a b c d v3 : Int32) : Int32 := if v3 = 0 then a else if v3 = 1 then b else if v3 = 2 then c else if v3 = 3 then d else -10000000
set_option maxHeartbeats 400000 in
theorem M_stepsWalk {m : HP} {w : Nat → Int32} (hw : m.1 1 = w) (R : RowsOk w) {key : Int32} {k : Nat} (h9 : m.1 0 9 = nI k) (hk : k ≤ 190) (v2 v3 : Int32) :
    (∀ j, j < k - 1 → stP w key (m.1 7) j = true → v2 = nI (cN (stP w key (m.1 7)) j) → f_Mo_steps_l99 0 m key v2 v3 (0, 0) = some (m, stA (tmO (m.1 7 j)) (tmO (m.1 7 (j + 1))) (nI (cntN w key (m.1 7 j))) (valK w key (m.1 7 j)) v3)) ∧
    ((∀ c, c < cN (stP w key (m.1 7)) (k - 1) → ¬ v2 = nI c) → f_Mo_steps_l99 0 m key v2 v3 (0, 0) = some (m, if v2 = -1 then nI (cN (stP w key (m.1 7)) (k - 1)) else -10000000)) := by
  have cK : ∀ j, fI (lvst w 0 key (m.1 7 j)) (nS w 0) 0 + fI (lvst w 1 key (m.1 7 j)) (nS w 1) 0 = nI (cntN w key (m.1 7 j)) := fun j => cntK_N w key (m.1 7 j)
  have ent : ∀ j v4, j < k - 1 → f_Mo_steps_b99 0 m key v2 v3 v4 (nI j) = (if nI (cntN w key (m.1 7 j)) = 0 then some (Sum.inl (v4, nI (j + 1))) else if v4 = v2 then some (Sum.inr (m, stA (tmO (m.1 7 j)) (tmO (m.1 7 (j + 1))) (nI (cntN w key (m.1 7 j))) (valK w key (m.1 7 j)) v3)) else some (Sum.inl (v4 + 1, nI (j + 1)))) := by
    intro j v4 hj
    unfold f_Mo_steps_b99
    simp only [h9, nI_1, if_neg (show ¬ nI k ≤ nI (j + 1) from nI_ge (by omega) (by omega)), if_pos (inb_nI (show j < 200 by omega) (show 200 < 2 ^ 31 by decide)), if_pos (inb_nI (show j + 1 < 200 by omega) (show 200 < 2 ^ 31 by decide)), ix_nI (show j < 2 ^ 31 by omega), ix_nI (show j + 1 < 2 ^ 31 by omega), Nat.zero_add, M_liveAt hw R (s := 0) (by omega) (v1 := 0) rfl, M_liveAt hw R (s := 1) (by omega) (v1 := 1) rfl, Option.bind_some, cK j, M_time, M_valuesAt hw R]
    by_cases z : nI (cntN w key (m.1 7 j)) = 0
    · simp only [if_pos z]
    · simp only [if_neg z]
      by_cases y : v4 = v2
      · simp only [if_pos y]
        unfold stA tmO
        by_cases a0 : v3 = 0
        · simp only [if_pos a0]; rfl
        · by_cases a1 : v3 = 1
          · simp only [if_neg a0, if_pos a1]; rfl
          · by_cases a2 : v3 = 2
            · simp only [if_neg a0, if_neg a1, if_pos a2]; rfl
            · by_cases a3 : v3 = 3
              · simp only [if_neg a0, if_neg a1, if_neg a2, if_pos a3]; rfl
              · simp only [if_neg a0, if_neg a1, if_neg a2, if_neg a3]; rfl
      · simp only [if_neg y]
  have cz : ∀ j, nI (cntN w key (m.1 7 j)) = 0 ↔ stP w key (m.1 7) j = false := by
    intro j
    have := cntN_le R key (m.1 7 j)
    have e : nI (cntN w key (m.1 7 j)) = 0 ↔ cntN w key (m.1 7 j) = 0 := nI_eq (b := 0) (by omega) (by omega)
    rw [e]; unfold stP; rw [decide_eq_false_iff_not]; omega
  have step : ∀ j v4, j < k - 1 → v4 = nI (cN (stP w key (m.1 7)) j) → ¬ (stP w key (m.1 7) j = true ∧ v2 = nI (cN (stP w key (m.1 7)) j)) → f_Mo_steps_b99 0 m key v2 v3 v4 (nI j) = some (Sum.inl (nI (cN (stP w key (m.1 7)) (j + 1)), nI (j + 1))) := by
    intro j v4 hj e4 hno
    rw [ent j v4 hj, e4]
    cases b : stP w key (m.1 7) j with
    | false =>
      rw [if_pos ((cz j).mpr b)]
      simp only [cN, b]; rfl
    | true =>
      rw [if_neg (fun z => by rw [(cz j).mp z] at b; cases b), if_neg (fun z => hno ⟨b, z.symm⟩)]
      simp only [cN, b, nI_1, if_true]
  constructor
  · intro j hj pj ev
    unfold f_Mo_steps_l99
    have key1 := loop_inv (body := fun x : Int32 × Int32 => f_Mo_steps_b99 0 m key v2 v3 x.1 x.2) (fun i (x : Int32 × Int32) => x.1 = nI (cN (stP w key (m.1 7)) i) ∧ x.2 = nI i) j (fun t : HP × Int32 => t = (m, stA (tmO (m.1 7 j)) (tmO (m.1 7 (j + 1))) (nI (cntN w key (m.1 7 j))) (valK w key (m.1 7 j)) v3)) (fun i x hi hI => ?_) (fun x hI => ?_) (0, 0) ⟨rfl, rfl⟩
    · obtain ⟨t, e, et⟩ := key1
      rw [e, et]
    · obtain ⟨v4, v5⟩ := x
      obtain ⟨e4, e5⟩ := hI
      replace e4 : v4 = nI (cN (stP w key (m.1 7)) i) := e4
      replace e5 : v5 = nI i := e5
      subst e5
      refine ⟨(nI (cN (stP w key (m.1 7)) (i + 1)), nI (i + 1)), step i v4 (by omega) e4 (fun z => ?_), rfl, rfl⟩
      have l1 := cN_lt hi z.1
      have l2 := cN_le (stP w key (m.1 7)) j
      have := (nI_eq (by omega) (by omega)).mp (z.2.symm.trans ev)
      omega
    · obtain ⟨v4, v5⟩ := x
      obtain ⟨e4, e5⟩ := hI
      replace e4 : v4 = nI (cN (stP w key (m.1 7)) j) := e4
      replace e5 : v5 = nI j := e5
      subst e5
      refine ⟨_, ?_, rfl⟩
      show f_Mo_steps_b99 0 m key v2 v3 v4 (nI j) = _
      rw [ent j v4 hj, if_neg (fun z => by rw [(cz j).mp z] at pj; cases pj), if_pos (e4.trans ev.symm)]
  · intro hno
    unfold f_Mo_steps_l99
    have key1 := loop_inv (body := fun x : Int32 × Int32 => f_Mo_steps_b99 0 m key v2 v3 x.1 x.2) (fun i (x : Int32 × Int32) => x.1 = nI (cN (stP w key (m.1 7)) i) ∧ x.2 = nI i) (k - 1) (fun t : HP × Int32 => t = (m, if v2 = -1 then nI (cN (stP w key (m.1 7)) (k - 1)) else -10000000)) (fun i x hi hI => ?_) (fun x hI => ?_) (0, 0) ⟨rfl, rfl⟩
    · obtain ⟨t, e, et⟩ := key1
      rw [e, et]
    · obtain ⟨v4, v5⟩ := x
      obtain ⟨e4, e5⟩ := hI
      replace e4 : v4 = nI (cN (stP w key (m.1 7)) i) := e4
      replace e5 : v5 = nI i := e5
      subst e5
      exact ⟨(nI (cN (stP w key (m.1 7)) (i + 1)), nI (i + 1)), step i v4 hi e4 (fun z => hno _ (cN_lt hi z.1) z.2), rfl, rfl⟩
    · obtain ⟨v4, v5⟩ := x
      obtain ⟨e4, e5⟩ := hI
      replace e4 : v4 = nI (cN (stP w key (m.1 7)) (k - 1)) := e4
      replace e5 : v5 = nI (k - 1) := e5
      subst e5; subst e4
      refine ⟨_, ?_, rfl⟩
      show f_Mo_steps_b99 0 m key v2 v3 _ (nI (k - 1)) = _
      unfold f_Mo_steps_b99
      simp only [h9, nI_1, if_pos (show nI k ≤ nI (k - 1 + 1) from nI_le (by omega) (by omega))]
      by_cases z : v2 = -1
      · simp only [if_pos z]; rfl
      · simp only [if_neg z]; rfl
set_option maxHeartbeats 400000 in
theorem stA_cel {a b c d : Int32} {j : Nat} (hj : j < 4) : stA a b c d (nI j) = cel a b c d 0 j := by
  rcases (show j = 0 ∨ j = 1 ∨ j = 2 ∨ j = 3 by omega) with rfl | rfl | rfl | rfl <;> rfl
set_option maxHeartbeats 400000 in
theorem stA_out {a b c d v : Int32} (h : ¬ (0 ≤ v ∧ v < 4)) : stA a b c d v = -10000000 := by
  unfold stA
  rw [if_neg (fun e => h (by rw [e]; decide)), if_neg (fun e => h (by rw [e]; decide)), if_neg (fun e => h (by rw [e]; decide)), if_neg (fun e => h (by rw [e]; decide))]
set_option maxHeartbeats 400000 in
theorem q_steps {h m : HP} {w : Nat → Int32} (Q : RQ h m w) (v1 v2 v3 : Int32) : Alike2 h m (f_TJ_steps 0 h v1 v2 v3) (f_Mo_steps 0 m v1 v2 v3) := by
  obtain ⟨hw, V, R, -, hW⟩ := Q
  unfold f_TJ_steps f_Mo_steps
  rw [X_isKey, M_isKey]
  simp only [Option.bind_some]
  by_cases hv : 0 ≤ v1 ∧ v1 ≤ 9
  · simp only [if_pos hv, if_neg one0]
    -- the reference
    obtain ⟨m', k, em, CTm, hk, Fm⟩ := M_stepsCut hw R v1 v2 v3
    rw [em]
    have hwm : m'.1 1 = w := by rw [Fm.1 1 (by decide) (by decide)]; exact hw
    have WM := M_stepsWalk (key := v1) hwm R CTm.1 CTm.2.1 v2 v3
    have kM := Fm.kM (by decide) (by decide) (by decide) (by decide) (by decide)
    -- the class
    obtain ⟨h1, e1, C1, F1⟩ := X_cempty h 32 (fun _ => 0)
    have C1' : CE h1 0 (PS w v1 0 0) := ⟨_, C1, fun i hi => by omega, fun x => ⟨fun ⟨i, hi, _⟩ => by omega, fun ⟨t, r, h, _⟩ => by omega⟩⟩
    have V1 : RV h1 2 w 0 (nS w 0) := RV.fc (s := 0) V.2.2.1 F1
    obtain ⟨h2, n2, e2, C2, l2, F2⟩ := X_putEnds (s := 0) V1 v1 C1' (by omega)
    have V2 : RV h2 8 w 1 (nS w 1) := RV.fc (s := 1) V.2.2.2 (F1.tr F2)
    obtain ⟨h3, n3, e3, C3, l3, F3⟩ := X_putEnds (s := 1) V2 v1 C2 (by omega)
    obtain ⟨h4, G, e4, C4, srt, mem, F4⟩ := CE_sort C3
    have Fc := ((F1.tr F2).tr F3).tr F4
    obtain ⟨h5, e5, P5, F5⟩ := X_pempty h4 (stF w v1 (m'.1 7))
    have V4 : SV h4 1 w := V.cg (fun a ha => Fc.1 a (by omega))
    have V5 := V4.fr F5 (by decide)
    have C5 : CW h5 32 n3 (fun i => (G i).toInt64) := C4.fp F5 (by cases e5; rfl)
    obtain ⟨h6, e6, P6, F6⟩ := X_stepsWalk V5 R (key := v1) C5 srt (CTm.2.2.cg (fun x => (mem x).symm)) P5 v2 v3
    have kX : keepX h h6 := fun a ha => by
      rw [F6 a (by simp; omega), F5 a (by simp; omega), Fc.1 a (by omega)]
    replace e2 : f_Ro_putEnds (0 + 1 + 1) h1 v1 (0 + 32) = some h2 := e2
    replace e3 : f_Ro_putEnds (0 + 1 + 7) h2 v1 (0 + 32) = some h3 := e3
    rw [show f_Co_empty (0 + 32) h = some h1 from e1]
    simp only [Option.bind_some]
    rw [e2]
    simp only [Option.bind_some]
    rw [e3]
    simp only [Option.bind_some]
    rw [show f_Co_sort (0 + 32) h3 = some h4 from e4]
    simp only [Option.bind_some]
    rw [show f_Pa_empty (0 + 34) h4 = some h5 from e5]
    simp only [Option.bind_some]
    rw [e6]
    have hcl := cN_le (stP w v1 (m'.1 7)) (k - 1)
    by_cases hx : ∃ c, c < cN (stP w v1 (m'.1 7)) (k - 1) ∧ v2 = nI c
    · obtain ⟨c, hc, ec⟩ := hx
      obtain ⟨j, hj, pj, ej⟩ := cN_sur hc
      have ne : ¬ v2 = -1 := by rw [ec]; exact nI_m1 (by omega)
      have em2 := WM.1 j hj pj (by rw [ej]; exact ec)
      rw [em2, if_neg ne]
      rcases X_pans P6 v2 v3 (c := 4) (by omega) (vc := 4) rfl with ⟨c', j', hc', hj', ec', ej', e⟩ | ⟨no, e⟩
      · have ecc : c' = cN (stP w v1 (m'.1 7)) j := by rw [ej]; exact (nI_eq (by omega) (by omega)).mp (ec'.symm.trans ec)
        refine ⟨h6, m', _, by rw [e]; rfl, ?_, kX, kM⟩
        rw [ej', stA_cel hj', ecc]
        unfold stF
        rw [nth_at pj]
      · refine ⟨h6, m', _, by rw [e]; rfl, ?_, kX, kM⟩
        rw [stA_out (fun z => no ⟨?_, ?_, z.1, z.2⟩)]
        · rw [ec]; exact nI_pos' (by omega)
        · rw [ec]; exact nI_lt hc (by omega)
    · have hno : ∀ c, c < cN (stP w v1 (m'.1 7)) (k - 1) → ¬ v2 = nI c := fun c h1 h2 => hx ⟨c, h1, h2⟩
      rw [WM.2 hno]
      by_cases z : v2 = -1
      · rw [if_pos z, if_pos z]
        exact ⟨h6, m', _, rfl, rfl, kX, kM⟩
      · rw [if_neg z, if_neg z]
        rcases X_pans P6 v2 v3 (c := 4) (by omega) (vc := 4) rfl with ⟨c', j', hc', hj', ec', ej', e⟩ | ⟨no, e⟩
        · exact absurd ec' (hno c' hc')
        · exact ⟨h6, m', _, by rw [e]; rfl, rfl, kX, kM⟩
  · simp only [if_neg hv, if_true]; exact ⟨h, m, _, rfl, rfl, keepX.rf, keepM.rf⟩
