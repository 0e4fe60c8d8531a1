/-! the net drawn tight: alike -/
set_option maxHeartbeats 400000 in
theorem cls_of {F : Nat → Nat} (S : symN F) (h : ∀ a b, a < 6 → b < 6 → a < b → nrV F a b 6 = F (6 * a + b)) : clsd F := by
  have up : ∀ i j k, i < 6 → j < 6 → k < 6 → i ≠ j → j ≠ k → i < k → sub (F (6 * i + k)) (cpN (F (6 * i + j)) (F (6 * j + k))) := fun i j k hi hj hk h1 h2 h3 => by
    have := (nrV_sub (F := F) (i := i) (k := k) 6).2 j hj (Ne.symm h1) h2
    rw [h i k hi hk h3] at this; exact this
  intro i j k hi hj hk h1 h2 h3
  rcases Nat.lt_or_ge i k with z | z
  · exact up i j k hi hj hk h1 h2 z
  · have a := cwN_mono (up k j i hk hj hi (Ne.symm h2) (Ne.symm h1) (by omega))
    rw [← S k i hk hi] at a
    have b := a.tr (cp_conv _ _).1
    rw [← S j i hj hi, ← S k j hk hj] at b
    exact b
section D3
variable {h0 h m : HP} {N F : Nat → Nat}
set_option maxHeartbeats 400000 in
theorem X_d27 (hN : symN N) (X : XT h0 h F) (I : IT N F) (S : symN F) : ∃ h', f_We_draw_l27 29 h (h, 1, 0) = some h' ∧ ∃ C, GR N C ∧ (∀ j, j < 36 → h'.1 31 j = nI (C j)) ∧ h'.1 29 2 = 1 ∧ ∀ a, a ≠ 29 → a ≠ 31 → h'.1 a = h0.1 a := by
  unfold f_We_draw_l27
  refine loop_ms (body := fun x : HP × Int32 × Int32 => f_We_draw_b27 29 x.1 x.2.1 x.2.2) (fun x => ∃ F' r, x.2.2 = nI r ∧ r ≤ 196 ∧ XT h0 x.1 F' ∧ IT N F' ∧ symN F' ∧ ((x.2.1 = 1 ∧ smF (pcU F') 36 + r ≤ 195) ∨ (x.2.1 = 0 ∧ clsd F'))) (fun x => if x.2.1 = 0 then 0 else 300 - ix x.2.2) (fun h' => ∃ C, GR N C ∧ (∀ j, j < 36 → h'.1 31 j = nI (C j)) ∧ h'.1 29 2 = 1 ∧ ∀ a, a ≠ 29 → a ≠ 31 → h'.1 a = h0.1 a) (fun x hI => ?_) (h, 1, 0) ⟨F, 0, rfl, by omega, X, I, S, Or.inl ⟨rfl, Nat.le_trans (Nat.le_of_eq (Nat.add_zero _)) (pcU_195 F)⟩⟩
  obtain ⟨h1, more, v2⟩ := x
  obtain ⟨F', r, er, hr, X', I', S', hx⟩ := hI
  replace er : v2 = nI r := er
  replace X' : XT h0 h1 F' := X'
  replace hx : (more = 1 ∧ smF (pcU F') 36 + r ≤ 195) ∨ (more = 0 ∧ clsd F') := hx
  subst er
  rcases hx with ⟨rfl, hp⟩ | ⟨rfl, hc⟩
  · left
    obtain ⟨h2, F2, more2, e2, X2, O2⟩ := X_d42 (r := r) hN X' I' S'
    refine ⟨(h2, more2, nI (r + 1)), ?_, ⟨F2, r + 1, rfl, by omega, X2, O2.1, O2.2.1, ?_⟩, ?_⟩
    · show f_We_draw_b27 29 h1 1 (nI r) = _
      unfold f_We_draw_b27
      rw [if_neg (show ¬ (256 : Int32) ≤ nI r from nI_ge (b := 256) (by omega) (by decide)), if_neg one0, e2]
    · rcases O2.2.2 with ⟨e, eF, hh⟩ | ⟨e, hl⟩
      · refine Or.inr ⟨e, ?_⟩
        rw [eF]
        exact cls_of S' (fun a b ha hb hab => hh a b ha hb hab (Or.inl ha))
      · exact Or.inl ⟨e, by omega⟩
    · show (if more2 = 0 then 0 else 300 - ix (nI (r + 1))) < (if (1 : Int32) = 0 then 0 else 300 - ix (nI r))
      rw [if_neg one0, ix_nI (by omega), ix_nI (by omega)]
      by_cases z : more2 = 0
      · rw [if_pos z]; omega
      · rw [if_neg z]; omega
  · right
    refine ⟨upI h1 29 2 1, ?_, F', ⟨I'.1, I'.2.1, hc, I'.2.2⟩, fun j hj => by rw [upI_at _ _ _ _ (by decide)]; exact X'.1 j hj, by rw [upI_s, if_pos rfl], fun a a1 a2 => by rw [upI_at _ _ _ _ a1]; exact X'.2 a a2⟩
    show f_We_draw_b27 29 h1 0 (nI r) = _
    unfold f_We_draw_b27
    rw [if_neg (show ¬ (256 : Int32) ≤ nI r from nI_ge (b := 256) (by omega) (by decide)), if_pos rfl]; rfl
set_option maxHeartbeats 400000 in
theorem X_draw (V : NV h 1 (m.1 1)) : ∃ (h' : HP) (N C : Nat → Nat), f_We_draw 29 h = some h' ∧ NetOk N ∧ GR N C ∧ (∀ j, j < 36 → m.1 1 (4064 + j) = nI (N j)) ∧ (∀ j, j < 36 → h'.1 31 j = nI (C j)) ∧ NV h' 1 (m.1 1) ∧ ∀ a, (a < 29 ∨ 31 < a) → h'.1 a = h.1 a := by
  have V0 := V
  obtain ⟨N, n1, n2, n3⟩ := V
  unfold f_We_draw
  rcases n3 with z | ⟨z, C, g, t⟩
  · rw [if_pos z]
    have cp : ∀ j, j < 36 → (cpA h 30 31 36).1 31 j = nI (N j) := fun j hj => by
      show (if 31 = 31 ∧ j < 36 then h.1 30 j else h.1 31 j) = _
      rw [if_pos ⟨rfl, hj⟩]; exact (n2 j hj).2
    have co : ∀ a, a ≠ 31 → (cpA h 30 31 36).1 a = h.1 a := fun a ha => by
      funext b
      show (if a = 31 ∧ b < 36 then h.1 30 b else h.1 a b) = _
      rw [if_neg (fun u => ha u.1)]
    obtain ⟨h', e, C, g, t, d, f⟩ := X_d27 (h0 := cpA h 30 31 36) (N := N) (F := N) n1.2.1 ⟨cp, fun _ _ => rfl⟩ ⟨n1.1, fun j _ => sub.rf _, fun M _ _ hh j hj => hh j hj⟩ n1.2.1
    refine ⟨h', N, C, e, n1, g, fun j hj => (n2 j hj).1, t, ⟨N, n1, fun j hj => ⟨(n2 j hj).1, ?_⟩, Or.inr ⟨d, C, g, t⟩⟩, fun a ha => by rw [f a (by omega) (by omega), co a (by omega)]⟩
    show h'.1 30 j = _
    rw [f 30 (by decide) (by decide), co 30 (by decide)]; exact (n2 j hj).2
  · rw [if_neg (show ¬ h.1 29 2 = 0 by rw [show h.1 29 2 = 1 from z]; decide)]
    exact ⟨h, N, C, rfl, n1, g, fun j hj => (n2 j hj).1, t, V0, fun _ _ => rfl⟩
set_option maxHeartbeats 400000 in
theorem both_tight (V : NV h 1 (m.1 1)) (Cm : CC m) : ∃ (h' m' : HP) (C : Nat → Nat), f_We_draw 29 h = some h' ∧ f_Mo_tightens 0 m = some m' ∧ (∀ j, j < 36 → C j < 8192) ∧ (∀ j, j < 36 → h'.1 31 j = nI (C j)) ∧ (∀ j, j < 36 → m'.1 10 j = nI (C j)) ∧ NV h' 1 (m'.1 1) ∧ (∀ a, (a < 29 ∨ 31 < a) → h'.1 a = h.1 a) ∧ m'.1 1 = m.1 1 ∧ m'.1 2 = m.1 2 ∧ (∀ j, j ≠ 12 → m'.1 0 j = m.1 0 j) ∧ CC m' := by
  obtain ⟨h', N, C, e, n1, g, nw, t, V', f⟩ := X_draw V
  obtain ⟨m', C', e2, T, g2⟩ := M_tightens Cm n1.1 nw
  have eq := GR_uniq g g2
  have w1 : m'.1 1 = m.1 1 := T.2.2.2 1 (by decide) (by decide) (by decide)
  refine ⟨h', m', C, e, e2, g.1, t, fun j hj => by rw [T.1 j hj, eq j hj], by rw [w1]; exact V', f, w1, T.2.2.2 2 (by decide) (by decide) (by decide), T.2.2.1, T.2.1⟩
set_option maxHeartbeats 400000 in
theorem q_between (V : NV h 1 (m.1 1)) (Cm : CC m) (v1 v2 v3 : Int32) : AlikeN h m (f_TJ_between 0 h v1 v2 v3) (f_Mo_between 0 m v1 v2 v3) := by
  have out : AlikeN h m (some (h, -1)) (some (m, -1)) := ⟨h, m, -1, rfl, rfl, V, fun _ _ => rfl, fun _ _ => rfl, rfl, fun _ _ => rfl, Cm⟩
  unfold f_TJ_between f_Mo_between
  simp only [Nat.zero_add, Nat.reduceAdd]
  rw [X_isName, X_isName, M_isName, M_isName]
  simp only [Option.bind_some]
  by_cases a : 0 ≤ v1 ∧ v1 ≤ 5
  · rw [if_pos a, if_neg one0, if_neg one0]
    by_cases b : 0 ≤ v2 ∧ v2 ≤ 5
    · rw [if_pos b, if_neg one0, if_neg one0]
      obtain ⟨i, hi, rfl⟩ := name_in a
      obtain ⟨k, hk, rfl⟩ := name_in b
      have l1 : nI i * 6 + nI k = nI (6 * i + k) := by rw [show nI i * 6 = nI (i * 6) from pk_mul i 6, nI_add, Nat.mul_comm]
      have l2 : (6 : Int32) * nI i + nI k = nI (6 * i + k) := by rw [show (6 : Int32) * nI i = nI (6 * i) from pk_mul 6 i, nI_add]
      have l3 : (4064 : Int32) + 6 * nI i + nI k = nI (4064 + (6 * i + k)) := by rw [show (4064 : Int32) + 6 * nI i = nI (4064 + 6 * i) from lin1 4064 6 i, nI_add, Nat.add_assoc]
      by_cases z : v3 = 0
      · have V0 := V
        obtain ⟨N, n1, n2, -⟩ := V
        have e := n2 (6 * i + k) (by omega)
        rw [if_pos z, if_pos z, l1, l3, if_pos (inb_nI (show 6 * i + k < 36 by omega) (by decide)), if_pos (inb_nI (show 4064 + (6 * i + k) < 4100 by omega) (by decide)), ix_nI (show 6 * i + k < 2 ^ 31 by omega), ix_nI (show 4064 + (6 * i + k) < 2 ^ 31 by omega), e.1, show h.1 30 (6 * i + k) = nI (N (6 * i + k)) from e.2]
        exact ⟨h, m, _, rfl, rfl, V0, fun _ _ => rfl, fun _ _ => rfl, rfl, fun _ _ => rfl, Cm⟩
      · obtain ⟨h', m', C, e1, e2, cl, t1, t2, V', f, w1, w2, w0, C'⟩ := both_tight V Cm
        rw [if_neg z, if_neg z, e1, e2]
        simp only [Option.bind_some]
        rw [l1, l2, if_pos (inb_nI (show 6 * i + k < 36 by omega) (by decide)), if_pos (inb_nI (show 6 * i + k < 36 by omega) (by decide)), ix_nI (show 6 * i + k < 2 ^ 31 by omega), t1 (6 * i + k) (by omega), t2 (6 * i + k) (by omega)]
        exact ⟨h', m', _, rfl, rfl, V', f, fun j _ => by rw [w1], w2, w0, C'⟩
    · rw [if_neg b, if_pos rfl, if_pos rfl]; exact out
  · rw [if_neg a, if_pos rfl, if_pos rfl]; exact out
set_option maxHeartbeats 400000 in
theorem q_sound (V : NV h 1 (m.1 1)) (Cm : CC m) : AlikeN h m (f_TJ_sound 0 h) (f_Mo_sound 0 m) := by
  obtain ⟨h', m', C, e1, e2, cl, t1, t2, V', f, w1, w2, w0, C'⟩ := both_tight V Cm
  have xe : f_We_hasEmpty 29 h' = some (match fstN (fun j => decide (C j = 0)) 36 with | some _ => 1 | none => 0) := by
    unfold f_We_hasEmpty f_We_hasEmpty_l2
    refine loop_find 36 (fun j => decide (C j = 0)) 0 (fun _ => 1) (fun j hj => ?_) ?_
    · unfold f_We_hasEmpty_b2
      rw [if_neg (show ¬ (36 : Int32) ≤ nI j from nI_ge (b := 36) hj (by decide)), if_pos (inb_nI hj (by decide)), ix_nI (by omega), show h'.1 (29 + 2) j = nI (C j) from t1 j hj, nI_1]
      have := cl j hj
      simp only [decide_eq_true_eq]
      by_cases z : C j = 0
      · rw [if_pos (by rw [z]; rfl), if_pos z]; rfl
      · rw [if_neg (nI_ne0 (by omega) (by omega)), if_neg z]
    · unfold f_We_hasEmpty_b2
      rw [if_pos (show (36 : Int32) ≤ nI 36 from nle 36)]; rfl
  have me : f_Mo_sound_l6 0 m' 0 = some (match fstN (fun j => decide (C j = 0)) 36 with | some _ => (m', 0) | none => (m', 1)) := by
    unfold f_Mo_sound_l6
    refine loop_find 36 (fun j => decide (C j = 0)) (m', 1) (fun _ => (m', 0)) (fun j hj => ?_) ?_
    · unfold f_Mo_sound_b6
      rw [if_neg (show ¬ (36 : Int32) ≤ nI j from nI_ge (b := 36) hj (by decide)), if_pos (inb_nI hj (by decide)), ix_nI (by omega), show m'.1 (0 + 10) j = nI (C j) from t2 j hj, nI_1]
      have := cl j hj
      simp only [decide_eq_true_eq]
      by_cases z : C j = 0
      · rw [if_pos (by rw [z]; rfl), if_pos z]; rfl
      · rw [if_neg (nI_ne0 (by omega) (by omega)), if_neg z]
    · unfold f_Mo_sound_b6
      rw [if_pos (show (36 : Int32) ≤ nI 36 from nle 36)]; rfl
  unfold f_TJ_sound f_Mo_sound
  simp only [Nat.zero_add, Nat.reduceAdd]
  rw [e1, e2]
  simp only [Option.bind_some]
  rw [xe, me]
  cases fstN (fun j => decide (C j = 0)) 36 with
  | some j => exact ⟨h', m', 0, rfl, rfl, V', f, fun j _ => by rw [w1], w2, w0, C'⟩
  | none => exact ⟨h', m', 1, rfl, rfl, V', f, fun j _ => by rw [w1], w2, w0, C'⟩
end D3
