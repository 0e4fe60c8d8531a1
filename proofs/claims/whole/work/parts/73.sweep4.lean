/-! sweep: the class's begin to its end; the reference's sweep -/
section S4
variable {h m : HP} {w : Nat → Int32} {s : Nat}
set_option maxHeartbeats 400000 in
theorem X_beginEnd {h0 : HP} {f : Nat → Int64} (hf : ∀ k, f k = phE w (fE (nS w 0) k)) (R : RowsOk w) (B : BG f h0 h w 2) : ∃ h' : HP, f_Cu_begin_b6 23 h 1 32 (nI 2) = some (Sum.inr h') ∧ (∀ a, a ≠ 23 → a ≠ 24 → a ≠ 26 → a ≠ 27 → a ≠ 32 → h'.1 a = h0.1 a) ∧ (h'.1 23 1 = nI (2 * (nS w 0 + nS w 1)) ∧ h'.1 23 2 = 0 ∧ h'.1 23 3 = (if 2 * (nS w 0 + nS w 1) ≤ 0 then 0 else 1) ∧ h'.1 23 8 = 0 ∧ h'.1 23 9 = nI 0 + nI 0 + nI (cN (hdB w 0 (2 * (nS w 0 + nS w 1)) (EE w)) 8) ∧ h'.1 23 10 = 0 ∧ h'.1 23 11 = 0 ∧ h'.1 23 12 = 0) ∧ (∀ k, k < 2 * (nS w 0 + nS w 1) → h'.1 24 k = nI (evC w (EE w k))) ∧ (∀ t, t < 2 → h'.1 26 t = nI 0) ∧ ∀ u, u < 8 → h'.1 27 u = nI (scN w (2 * (nS w 0 + nS w 1)) (EE w) 0 u) := by
  have n0 := (R 0 (by omega)).2.1
  have n1 := (R 1 (by omega)).2.1
  obtain ⟨C, F, a26, a27⟩ := B
  rw [if_neg (by decide), if_neg (by decide)] at C
  generalize hT : 2 * (nS w 0 + nS w 1) = T at *
  obtain ⟨h1, e1, C1, F1⟩ := X_sort C
  have srt : ∀ k, k < T → Int64.toInt32 (srtK k64 f T k) = nI (evC w (EE w k)) := fun k hk => by
    have ff : f = fun k => phE w (fE (nS w 0) k) := funext hf
    rw [ff, srtK_map (ph := phE w) (f := fE (nS w 0)) T k]
    have e : srtK (fun a => k64 (phE w a)) (fE (nS w 0)) T k = EE w k := by unfold EE; rw [hT]; rfl
    rw [e]
    unfold phE
    exact t3264 _
  have c27 : ∀ u, u < 8 → h.1 27 u = nI (scN w T (EE w) 0 u) := fun u hu => by
    have a := a27 (u / 4) (u % 4) (by omega) (by omega)
    have b := EE_sc R (u := u % 4) (s := u / 4) (by omega) (by omega)
    rw [hT] at b
    rw [show 4 * (u / 4) + u % 4 = u by omega] at a b
    rw [a, b]
  have lim : (if 160 < h1.1 32 1 then (160 : Int32) else h1.1 32 1) = nI T := by
    rw [C1.2.1, if_neg (show ¬ (160 : Int32) < nI T from nI_nlt (a := 160) (b := T) (by omega) (by decide))]
  have C2 : CW (upI h1 23 1 (nI T)) 32 T (srtK k64 f T) := ⟨C1.1, by rw [upI_ne _ _ _ _ (by decide)]; exact C1.2.1, C1.2.2⟩
  have key := X_beg141 C2 (by rw [upI_s, if_pos rfl]) (fun h' => (∀ a, a ≠ 23 → a ≠ 24 → a ≠ 26 → a ≠ 27 → a ≠ 32 → h'.1 a = h0.1 a) ∧ (h'.1 23 1 = nI T ∧ h'.1 23 2 = 0 ∧ h'.1 23 3 = (if T ≤ 0 then 0 else 1) ∧ h'.1 23 8 = 0 ∧ h'.1 23 9 = nI 0 + nI 0 + nI (cN (hdB w 0 T (EE w)) 8) ∧ h'.1 23 10 = 0 ∧ h'.1 23 11 = 0 ∧ h'.1 23 12 = 0) ∧ (∀ k, k < T → h'.1 24 k = nI (evC w (EE w k))) ∧ (∀ t, t < 2 → h'.1 26 t = nI 0) ∧ ∀ u, u < 8 → h'.1 27 u = nI (scN w T (EE w) 0 u)) (fun h2 g1 g2 => ?_)
  · obtain ⟨h', et, post⟩ := key
    refine ⟨h', ?_, post⟩
    unfold f_Cu_begin_b6
    rw [if_pos (show (2 : Int32) ≤ nI 2 from nle 2), e1]
    simp only [Option.bind_some]
    rw [lim, et]; rfl
  · have x23 : h2.1 23 1 = nI T := by rw [g1 23 (by decide), upI_s, if_pos rfl]
    have x26 : ∀ t, t < 2 → h2.1 26 t = nI 0 := fun t ht => by rw [g1 26 (by decide), upI_ne _ _ _ _ (by decide), F1.1 26 (by decide)]; exact a26 t ht
    have x27 : ∀ u, u < 8 → h2.1 27 u = nI (scN w T (EE w) 0 u) := fun u hu => by rw [g1 27 (by decide), upI_ne _ _ _ _ (by decide), F1.1 27 (by decide)]; exact c27 u hu
    have rn : ∀ run : Int32, (run = 0 ∨ run = 1) → f_Cu_begin_j185 23 (upI h2 23 2 0) run 23 = some (upI (upI (upI (upI (upI (upI (upI h2 23 2 0) 23 3 run) 23 8 0) 23 9 (nI 0 + nI 0 + nI (cN (hdB w 0 T (EE w)) 8))) 23 10 0) 23 11 0) 23 12 0) := by
      intro run hr
      have XH := X_heads (h := upI (upI (upI h2 23 2 0) 23 3 run) 23 8 0) (w := w) (E := EE w) (G := 0) (T := T) 23 (fun u hu => by
        show (upI (upI (upI h2 23 2 0) 23 3 run) 23 8 0).1 27 u = _
        rw [upI_ne _ _ _ _ (by decide), upI_ne _ _ _ _ (by decide), upI_ne _ _ _ _ (by decide)]; exact x27 u hu) (by omega)
      have at0 : f_Cu_activeTogether 23 (upI (upI (upI h2 23 2 0) 23 3 run) 23 8 0) = some (nI 0 + nI 0) := by
        unfold f_Cu_activeTogether
        simp only [Nat.reduceAdd, ix0, ix1]
        rw [upI_ne _ _ _ _ (by decide), upI_ne _ _ _ _ (by decide), upI_ne _ _ _ _ (by decide), upI_ne _ _ _ _ (by decide), upI_ne _ _ _ _ (by decide), upI_ne _ _ _ _ (by decide), x26 0 (by omega), x26 1 (by omega)]
      unfold f_Cu_begin_j185 f_Cu_held
      rw [if_pos hr]
      exact bsome (bsome at0 (bsome XH rfl)) rfl
    generalize hrun : (if T ≤ 0 then (0 : Int32) else 1) = run
    have hr01 : run = 0 ∨ run = 1 := by
      rw [← hrun]
      by_cases z : T ≤ 0
      · rw [if_pos z]; exact Or.inl rfl
      · rw [if_neg z]; exact Or.inr rfl
    have ex : f_Cu_begin_b141 23 h2 32 (nI T) = some (Sum.inr (upI (upI (upI (upI (upI (upI (upI h2 23 2 0) 23 3 run) 23 8 0) 23 9 (nI 0 + nI 0 + nI (cN (hdB w 0 T (EE w)) 8))) 23 10 0) 23 11 0) 23 12 0)) := by
      unfold f_Cu_begin_b141
      rw [x23, if_pos (nle _), upI_s, if_neg (show ¬ 1 = 2 by decide), x23]
      by_cases z : T ≤ 0
      · rw [if_pos z] at hrun
        rw [if_pos (show nI T ≤ 0 by rw [show T = 0 by omega]; decide), rn 0 (Or.inl rfl), hrun]; rfl
      · rw [if_neg z] at hrun
        rw [if_neg (nI_nle (by omega) (by omega)), rn 1 (Or.inr rfl), hrun]; rfl
    generalize nI 0 + nI 0 + nI (cN (hdB w 0 T (EE w)) 8) = A9 at *
    refine ⟨_, ex, fun a h3 h4 h5 h6 h7 => ?_, ⟨?_, ?_, ?_, ?_, ?_, ?_, ?_, ?_⟩, fun k hk => ?_, fun t ht => ?_, fun u hu => ?_⟩
    · rw [upI_at _ _ _ _ h3, upI_at _ _ _ _ h3, upI_at _ _ _ _ h3, upI_at _ _ _ _ h3, upI_at _ _ _ _ h3, upI_at _ _ _ _ h3, upI_at _ _ _ _ h3, g1 a h4, upI_at _ _ _ _ h3, F1.1 a h7]
      exact F a h5 h6 h7
    · rw [upI_s, if_neg (by decide), upI_s, if_neg (by decide), upI_s, if_neg (by decide), upI_s, if_neg (by decide), upI_s, if_neg (by decide), upI_s, if_neg (by decide), upI_s, if_neg (by decide)]; exact x23
    · rw [upI_s, if_neg (by decide), upI_s, if_neg (by decide), upI_s, if_neg (by decide), upI_s, if_neg (by decide), upI_s, if_neg (by decide), upI_s, if_neg (by decide), upI_s, if_pos rfl]
    · rw [upI_s, if_neg (by decide), upI_s, if_neg (by decide), upI_s, if_neg (by decide), upI_s, if_neg (by decide), upI_s, if_neg (by decide), upI_s, if_pos rfl]
    · rw [upI_s, if_neg (by decide), upI_s, if_neg (by decide), upI_s, if_neg (by decide), upI_s, if_neg (by decide), upI_s, if_pos rfl]
    · rw [upI_s, if_neg (by decide), upI_s, if_neg (by decide), upI_s, if_neg (by decide), upI_s, if_pos rfl]
    · rw [upI_s, if_neg (by decide), upI_s, if_neg (by decide), upI_s, if_pos rfl]
    · rw [upI_s, if_neg (by decide), upI_s, if_pos rfl]
    · rw [upI_s, if_pos rfl]
    · rw [upI_at _ _ _ _ (by decide), upI_at _ _ _ _ (by decide), upI_at _ _ _ _ (by decide), upI_at _ _ _ _ (by decide), upI_at _ _ _ _ (by decide), upI_at _ _ _ _ (by decide), upI_at _ _ _ _ (by decide), g2 k hk]
      exact srt k hk
    · rw [upI_at _ _ _ _ (by decide), upI_at _ _ _ _ (by decide), upI_at _ _ _ _ (by decide), upI_at _ _ _ _ (by decide), upI_at _ _ _ _ (by decide), upI_at _ _ _ _ (by decide), upI_at _ _ _ _ (by decide)]
      exact x26 t ht
    · rw [upI_at _ _ _ _ (by decide), upI_at _ _ _ _ (by decide), upI_at _ _ _ _ (by decide), upI_at _ _ _ _ (by decide), upI_at _ _ _ _ (by decide), upI_at _ _ _ _ (by decide), upI_at _ _ _ _ (by decide)]
      exact x27 u hu
set_option maxHeartbeats 400000 in
theorem X_begin (V : SV h 1 w) (R : RowsOk w) : ∃ h' : HP, f_Cu_begin 23 h 1 32 = some h' ∧ (∀ a, a ≠ 23 → a ≠ 24 → a ≠ 26 → a ≠ 27 → a ≠ 32 → h'.1 a = h.1 a) ∧ (h'.1 23 1 = nI (2 * (nS w 0 + nS w 1)) ∧ h'.1 23 2 = 0 ∧ h'.1 23 3 = (if 2 * (nS w 0 + nS w 1) ≤ 0 then 0 else 1) ∧ h'.1 23 8 = 0 ∧ h'.1 23 9 = nI 0 + nI 0 + nI (cN (hdB w 0 (2 * (nS w 0 + nS w 1)) (EE w)) 8) ∧ h'.1 23 10 = 0 ∧ h'.1 23 11 = 0 ∧ h'.1 23 12 = 0) ∧ (∀ k, k < 2 * (nS w 0 + nS w 1) → h'.1 24 k = nI (evC w (EE w k))) ∧ (∀ t, t < 2 → h'.1 26 t = nI 0) ∧ ∀ u, u < 8 → h'.1 27 u = nI (scN w (2 * (nS w 0 + nS w 1)) (EE w) 0 u) := by
  obtain ⟨f, hf⟩ : ∃ f : Nat → Int64, ∀ k, f k = phE w (fE (nS w 0) k) := ⟨_, fun _ => rfl⟩
  obtain ⟨h1, e1, C1, F1⟩ := X_cempty h 32 f
  have B0 : BG f h h1 w 0 := ⟨by rw [if_pos rfl]; exact C1, fun a _ _ h3 => F1.1 a h3, fun t ht => by omega, fun t u ht => by omega⟩
  obtain ⟨h2, e2, B1⟩ := X_beg28 hf V R (by omega) B0
  obtain ⟨h3, e3, B2⟩ := X_beg28 hf V R (by omega) B1
  obtain ⟨h4, e4, post⟩ := X_beginEnd hf R B2
  refine ⟨h4, ?_, post⟩
  unfold f_Cu_begin f_Cu_begin_l6
  refine bsome e1 ?_
  rw [loop_inl (body := fun x : HP × Int32 => f_Cu_begin_b6 23 x.1 1 32 x.2) (s := (h1, 0)) e2, loop_inl (body := fun x : HP × Int32 => f_Cu_begin_b6 23 x.1 1 32 x.2) e3]
  exact loop_inr e4
/-! the reference -/
set_option maxHeartbeats 400000 in
theorem srt_next {F : Nat → Nat} {c e : Nat} {mm : HP} (he : e = F c) (W : EW mm (insK (kE w) (srtK (kE w) F c) c e) (c + 1)) : EW mm (srtK (kE w) F (c + 1)) (c + 1) := by
  have : srtK (kE w) F (c + 1) = insK (kE w) (srtK (kE w) F c) c e := by
    simp only [srtK]; rw [srtK_out c c (Nat.le_refl c), he]
  rw [this]; exact W
/-- what the reference's entering keeps -/
def kp (m m' : HP) : Prop := (∀ a, a ≠ 1 → m'.1 a = m.1 a) ∧ ∀ j, j ≠ 616 → (j < 621 ∨ 781 ≤ j) → m'.1 1 j = m.1 1 j
set_option maxHeartbeats 400000 in
theorem kp.tr {m m' m'' : HP} (a : kp m m') (b : kp m' m'') : kp m m'' := ⟨fun x h => (b.1 x h).trans (a.1 x h), fun j h1 h2 => (b.2 j h1 h2).trans (a.2 j h1 h2)⟩
set_option maxHeartbeats 400000 in
theorem M_sw85 (hw : ∀ j, j < 404 → m.1 1 j = w j) (R : RowsOk w) (hs : s < 2) {b : Nat} (hb : b = 2 * (nS w 0 * s)) (hT : b + 2 * nS w s ≤ 2 * (nS w 0 + nS w 1)) (W : EW m (srtK (kE w) (fE (nS w 0)) b) b) : ∃ m' : HP, f_Mo_sweep_l85 0 m (nI s) (m, 0) = some (Sum.inl (m', nI (s + 1))) ∧ EW m' (srtK (kE w) (fE (nS w 0)) (b + 2 * nS w s)) (b + 2 * nS w s) ∧ kp m m' := by
  have hN := (R s hs).2.1
  have n0 := (R 0 (by omega)).2.1
  have n1 := (R 1 (by omega)).2.1
  unfold f_Mo_sweep_l85
  have key := loop_inv (body := fun x : HP × Int32 => f_Mo_sweep_b85 0 x.1 (nI s) x.2) (fun r x => ∃ m' : HP, x = (m', nI r) ∧ EW m' (srtK (kE w) (fE (nS w 0)) (b + 2 * r)) (b + 2 * r) ∧ kp m m') (nS w s) (fun y => ∃ m' : HP, y = Sum.inl (m', nI (s + 1)) ∧ EW m' (srtK (kE w) (fE (nS w 0)) (b + 2 * nS w s)) (b + 2 * nS w s) ∧ kp m m') (fun r x hr hI => ?_) (fun x hI => ?_) (m, 0) ⟨m, rfl, W, ⟨fun _ _ => rfl, fun _ _ _ => rfl⟩⟩
  · obtain ⟨y, e, m', rfl, W', k⟩ := key
    exact ⟨m', e, W', k⟩
  · obtain ⟨m', rfl, W', k⟩ := hI
    have w2 : m'.1 1 (2 + s) = nI (nS w s) := by rw [k.2 _ (by omega) (by omega), hw _ (by omega)]; exact (R s hs).1
    have fa0 := fE_at (n0 := nS w 0) (s := s) (r := r) (d := 0) hs (fun z => by subst z; exact hr) (by omega)
    have fa1 := fE_at (n0 := nS w 0) (s := s) (r := r) (d := 1) hs (fun z => by subst z; exact hr) (by omega)
    rw [show 2 * (nS w 0 * s + r) + 0 = b + 2 * r by omega] at fa0
    rw [show 2 * (nS w 0 * s + r) + 1 = b + 2 * r + 1 by omega] at fa1
    have all : ∀ c, c ≤ 2 * (nS w 0 + nS w 1) → ∀ i, i < 2 * (nS w 0 + nS w 1) → vE w (srtK (kE w) (fE (nS w 0)) c i) := fun c hc => srtK_all (fun i hi => fE_vE R hi) c hc
    have v0 : vE w (fE (nS w 0) (b + 2 * r)) := fE_vE R (by omega)
    have v1 : vE w (fE (nS w 0) (b + 2 * r + 1)) := fE_vE R (by omega)
    obtain ⟨m1, p1, W1, k1⟩ := M_enters (w := w) (fun j hj => by rw [k.2 j (by omega) (by omega)]; exact hw j hj) R W' (by omega) v0 (fun i hi => all _ (by omega) i (by omega))
    have W1' := srt_next rfl W1
    have k01 : kp m m1 := kp.tr k k1
    obtain ⟨m2, p2, W2, k2⟩ := M_enters (w := w) (fun j hj => by rw [k01.2 j (by omega) (by omega)]; exact hw j hj) R W1' (by omega) v1 (fun i hi => all _ (by omega) i (by omega))
    have W2' := srt_next rfl W2
    have ev : ∀ d : Nat, f_Mo_event (nI s) (nI r) (nI d) = some (nI (2 * (40 * s + r) + d)) := fun d => by
      unfold f_Mo_event
      rw [show (40 : Int32) * nI s = nI (40 * s) from pk_mul 40 s, nI_add, show (2 : Int32) * nI (40 * s + r) = nI (2 * (40 * s + r)) from pk_mul 2 _, nI_add]
    show ∃ s', f_Mo_sweep_b85 0 m' (nI s) (nI r) = some (Sum.inl s') ∧ _
    unfold f_Mo_sweep_b85
    rw [if_pos (many_ix hs rfl).1, (many_ix hs rfl).2, Nat.zero_add, w2, if_neg (ngt hr hN), nI_1]
    refine ⟨(m2, nI (r + 1)), bsome (ev 1) (bsome (a := m1) ?_ (bsome (ev 0) (bsome (a := m2) ?_ rfl))), m2, rfl, W2', kp.tr k01 k2⟩
    · rw [← p1, fa0, Nat.sub_zero]
    · rw [← p2, fa1]; rfl
  · obtain ⟨m', rfl, W', k⟩ := hI
    have w2 : m'.1 1 (2 + s) = nI (nS w s) := by rw [k.2 _ (by omega) (by omega), hw _ (by omega)]; exact (R s hs).1
    show ∃ t, f_Mo_sweep_b85 0 m' (nI s) (nI (nS w s)) = some (Sum.inr t) ∧ _
    unfold f_Mo_sweep_b85
    rw [if_pos (many_ix hs rfl).1, (many_ix hs rfl).2, Nat.zero_add, w2, if_pos (nle _), nI_1]
    exact ⟨_, rfl, m', rfl, W', k⟩
end S4
