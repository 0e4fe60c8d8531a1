/-! one: all rows of a key, all keys -/
section OK1
variable {h : HP} {w : Nat → Int32} {s : Nat} {F : Nat → Nat} {D : Nat → Bool} {np : Nat} {op : Nat → Nat} {re : Nat → Int32} {ct g : Nat → Nat}
set_option maxHeartbeats 400000 in
theorem OC.fc {h' : HP} (O : OC h w s F D np op re ct g) (a : h'.1 34 = h.1 34) (b : h'.1 35 = h.1 35) (c : h'.1 36 = h.1 36) : OC h' w s F D np op re ct g := by
  refine ⟨?_, fun i hi => by rw [c]; exact O.2.1 i hi, O.2.2⟩
  unfold PW; rw [a, b]; exact O.1
set_option maxHeartbeats 400000 in
theorem OC.cgD {D' : Nat → Bool} (O : OC h w s F D np op re ct g) (e : ∀ o, o < nS w s → D o = D' o) : OC h w s F D' np op re ct g := by
  obtain ⟨P, H, L, A, B, C, E⟩ := O
  refine ⟨P, H, by rw [← cN_congr _ e]; exact L, fun o ho d => A o ho (by rw [e o ho]; exact d), fun i hi => ?_, C, E⟩
  obtain ⟨b1, b2, b3, ⟨o', c1, c2, c3, c4⟩, b5⟩ := B i hi
  refine ⟨b1, by rw [← e _ b1]; exact b2, b3, ⟨o', c1, by rw [← e _ c1]; exact c2, c3, c4⟩, ?_⟩
  rw [b5]
  exact cN_congr _ (fun o ho => by rw [e o ho])
set_option maxHeartbeats 400000 in
theorem RGlt {n N : Nat} {q : Nat → Nat} {p : Nat → Bool} {cd : Nat → Nat} (L : RG h n q p cd N) {t : Nat} (ht : t < n) : q t < N := (L.2.1 t ht).1
set_option maxHeartbeats 400000 in
theorem RGinj {n N : Nat} {q : Nat → Nat} {p : Nat → Bool} {cd : Nat → Nat} (L : RG h n q p cd N) {t u : Nat} (ht : t < n) (hu : u < n) (e : q t = q u) : t = u := by
  rcases Nat.lt_trichotomy t u with z | z | z
  · have := L.2.2.1 t u z hu; rw [e] at this; omega
  · exact z
  · have := L.2.2.1 u t z ht; rw [e] at this; omega
set_option maxHeartbeats 400000 in
theorem cd1_mod {o : Nat} (ho : o < 64) : cd1 w s o % 64 = o := by unfold cd1; omega
set_option maxHeartbeats 400000 in
theorem lN_row {x r : Nat} (hx : x % 64 = r) (hr : r < 40) : Int64.toInt32 (lN x &&& 63) = nI r := by
  rw [lN_and, hx, lN_32 (by omega)]
set_option maxHeartbeats 400000 in
theorem X_b93 {h' : HP} {n c : Nat} {f : Nat → Int64} (C' : CW h' 32 n f) (hc : c < n) {r cc : Nat} {f0 : Int32} (hr : Int64.toInt32 (f c &&& 63) = nI r) {h2 : HP} (e2 : f_TJ_joinSpan 0 h' cc (nI r) f0 = some h2) : f_TJ_makeOne_b93 0 h' cc f0 (nI c) = some (Sum.inl (h2, nI (c + 1))) := by
  have hn := C'.1
  unfold f_TJ_makeOne_b93
  rw [Nat.zero_add, C'.2.1, if_neg (nI_ge hc (by omega)), X_cat C' hc]
  simp only [Option.bind_some]
  rw [hr, e2, nI_1]
  rfl
set_option maxHeartbeats 400000 in
theorem RG_at {h' : HP} {n c N : Nat} {q : Nat → Nat} {p : Nat → Bool} {cd : Nat → Nat} (L : RG h n q p cd N) (e1 : h'.1 32 = h.1 32) (e2 : h'.2 = h.2) (hc : c < n) (hm : cd (q c) % 64 = q c) (hq : q c < 40) : ∃ f, CW h' 32 n f ∧ Int64.toInt32 (f c &&& 63) = nI (q c) :=
  ⟨fun i => lN (cd (q i)), ⟨L.1.1, by rw [e1]; exact L.1.2.1, fun i hi => by rw [e2]; exact L.1.2.2 i hi⟩, lN_row hm hq⟩
set_option maxHeartbeats 400000 in
theorem X_make93 (V : SV h 1 w) (R : RowsOk w) (hs : s < 2) (hF : RF w s (nS w s) F) {k n : Nat} {q : Nat → Nat} (L : RG h n q (fun o => decide (fld w s o 1 = nI k)) (cd1 w s) (nS w s)) (O : OC h w s F (fun o => decide (fld w s o 1 < nI k)) np op re ct g) : ∃ (h' : HP), f_TJ_makeOne_l93 0 h (rc 1 s) (nI np) (h, 0) = some h' ∧ fr [34, 35, 36] h h' ∧ ∃ (np' : Nat) (op' : Nat → Nat) (re' : Nat → Int32) (ct' g' : Nat → Nat), OC h' w s F (fun o => decide (fld w s o 1 < nI k) || anyN (fun u => decide (o = q u)) n) np' op' re' ct' g' := by
  have hN := (R s hs).2.1
  have hn := L.1.1
  have Kq : ∀ t, t < n → fld w s (q t) 1 = nI k := fun t ht => of_decide_eq_true (L.2.1 t ht).2
  unfold f_TJ_makeOne_l93
  refine loop_inv (body := fun x : HP × Int32 => f_TJ_makeOne_b93 0 x.1 (rc 1 s) (nI np) x.2) (fun c x => ∃ (h' : HP) (np' : Nat) (op' : Nat → Nat) (re' : Nat → Int32) (ct' g' : Nat → Nat), x = (h', nI c) ∧ fr [34, 35, 36] h h' ∧ h'.2 = h.2 ∧ OC h' w s F (fun o => decide (fld w s o 1 < nI k) || anyN (fun u => decide (o = q u)) c) np' op' re' ct' g' ∧ np ≤ np' ∧ (∀ i, i < np → fld w s (op' i) 1 < nI k) ∧ (∀ i, np ≤ i → i < np' → fld w s (op' i) 1 = nI k)) n (fun h' => fr [34, 35, 36] h h' ∧ ∃ (np' : Nat) (op' : Nat → Nat) (re' : Nat → Int32) (ct' g' : Nat → Nat), OC h' w s F (fun o => decide (fld w s o 1 < nI k) || anyN (fun u => decide (o = q u)) n) np' op' re' ct' g') (fun c x hc hI => ?_) (fun x hI => ?_) (h, 0) ⟨h, np, op, re, ct, g, rfl, fr.rf, rfl, O.cgD (fun o _ => by simp [anyN]), Nat.le_refl _, fun i hi => ?_, fun i h1 h2 => by omega⟩
  · obtain ⟨h', np', op', re', ct', g', rfl, Fr, E2, O', l1, l2, l3⟩ := hI
    have V' := V.fr Fr (by decide)
    have qc := RGlt L hc
    have kc := Kq c hc
    have nD : (decide (fld w s (q c) 1 < nI k) || anyN (fun u => decide (q c = q u)) c) = false := by
      rw [kc, decide_eq_false Int32.lt_irrefl, Bool.false_or, Bool.eq_false_iff]
      intro z
      obtain ⟨u, hu, e⟩ := (anyN_iff c).mp z
      have := RGinj L hc (show u < n by omega) (of_decide_eq_true e)
      omega
    obtain ⟨h2, np2, op2, re2, ct2, g2, e2, O2, F2, E3, m1, m2, m3⟩ := X_joinSpan V' R hs hF O' qc nD (fun o' h1 d => by
      rw [kc]
      simp only [Bool.or_eq_true, decide_eq_true_eq] at d
      rcases d with d | d
      · exact Or.inl d
      · obtain ⟨u, hu, e⟩ := (anyN_iff c).mp d
        have e := of_decide_eq_true e
        rw [e, Kq u (by omega)]
        have qu := RGlt L (show u < n by omega)
        refine Or.inr ⟨rfl, cd1_lt (by omega) (by omega) ?_ ?_ (L.2.2.1 u c hu hc)⟩
        · have := sp_rng R hs qu; omega
        · have := sp_rng R hs qc; omega) l1 (fun i hi => by rw [kc]; exact l2 i hi) (fun i h1 h2 => by rw [kc]; exact l3 i h1 h2)
    rw [kc] at m2 m3
    have q4 : q c < 40 := by omega
    have q5 : cd1 w s (q c) % 64 = q c := cd1_mod (by omega)
    obtain ⟨f, Cf, ef⟩ := RG_at L (Fr 32 (by decide)) E2 hc q5 q4
    have st := X_b93 Cf hc (f0 := nI np) ef e2
    have OO := O2.cgD (D' := fun o => decide (fld w s o 1 < nI k) || anyN (fun u => decide (o = q u)) (c + 1)) (fun o _ => ?_)
    · exact ⟨(h2, nI (c + 1)), st, h2, np2, op2, re2, ct2, g2, rfl, Fr.tr F2, E3.trans E2, OO, m1, m2, m3⟩
    · simp only [anyN, Bool.or_assoc]
  · obtain ⟨h', np', op', re', ct', g', rfl, Fr, E2, O', l1, l2, l3⟩ := hI
    show ∃ t, f_TJ_makeOne_b93 0 h' (rc 1 s) (nI np) (nI n) = some (Sum.inr t) ∧ _
    unfold f_TJ_makeOne_b93
    rw [Nat.zero_add, Fr 32 (by decide), L.1.2.1, if_pos (nle _)]
    exact ⟨_, rfl, Fr, np', op', re', ct', g', O'⟩
  · exact of_decide_eq_true (O.2.2.2.2.1 i hi).2.1
set_option maxHeartbeats 400000 in
theorem X_makeOne (V : SV h 1 w) (R : RowsOk w) (hs : s < 2) (hF : RF w s (nS w s) F) {k : Nat} (hk : k < 10) (O : OC h w s F (fun o => decide (fld w s o 1 < nI k)) np op re ct g) : ∃ (h' : HP), f_TJ_makeOne 0 h (rc 1 s) (nI k) = some h' ∧ fr [32, 34, 35, 36] h h' ∧ ∃ (np' : Nat) (op' : Nat → Nat) (re' : Nat → Int32) (ct' g' : Nat → Nat), OC h' w s F (fun o => decide (fld w s o 1 < nI (k + 1))) np' op' re' ct' g' := by
  have hN := (R s hs).2.1
  obtain ⟨h1, e1, C1, F1⟩ := X_cempty h 32 (fun t => lN (cd1 w s (nth (fun o => decide (fld w s o 1 = nI k)) t)))
  unfold f_TJ_makeOne
  rw [show f_Co_empty (0 + 32) h = some h1 from e1]
  simp only [Option.bind_some]
  unfold f_TJ_makeOne_l9
  have key := loop_inv (body := fun x : HP × Int32 => f_TJ_makeOne_b9 0 x.1 (rc 1 s) (nI k) x.2) (fun i x => ∃ h', x = (h', nI i) ∧ frC 32 h h' ∧ CW h' 32 (cN (fun o => decide (fld w s o 1 = nI k)) i) (fun t => lN (cd1 w s (nth (fun o => decide (fld w s o 1 = nI k)) t)))) (nS w s) (fun h' => fr [32, 34, 35, 36] h h' ∧ ∃ (np' : Nat) (op' : Nat → Nat) (re' : Nat → Int32) (ct' g' : Nat → Nat), OC h' w s F (fun o => decide (fld w s o 1 < nI (k + 1))) np' op' re' ct' g') (fun i x hi hI => ?_) (fun x hI => ?_) (h1, 0) ⟨h1, rfl, F1, C1⟩
  · exact key
  · obtain ⟨h', rfl, Fr, C'⟩ := hI
    have V' := RV.fc (V.rv hs) Fr
    show ∃ s', f_TJ_makeOne_b9 0 h' (rc 1 s) (nI k) (nI i) = some (Sum.inl s') ∧ _
    unfold f_TJ_makeOne_b9
    have b40 : inb (nI i) 40 := inb_nI (show i < 40 by omega) (by decide)
    rw [V'.2.1, if_neg (ngt hi hN)]
    simp only [if_pos b40]
    rw [ix_nI (by omega), (V'.2.2 i hi).2.1, (V'.2.2 i hi).2.2.2.2, X_start V' hi, nI_1]
    simp only [Option.bind_some]
    by_cases z : fld w s i 1 = nI k
    · have b := sp_rng R hs hi
      obtain ⟨h2, e2, C2, F2⟩ := CW_rowG C' (show i < 160 by omega) (decide_eq_true z)
      rw [if_pos z, cd1_l (by omega) (by omega) (by omega), Nat.zero_add, e2]
      exact ⟨_, rfl, h2, rfl, Fr.tr F2, C2⟩
    · rw [if_neg z]
      exact ⟨_, rfl, h', rfl, Fr, CW_skip C' (decide_eq_false z)⟩
  · obtain ⟨h', rfl, Fr, C'⟩ := hI
    have V' := RV.fc (V.rv hs) Fr
    show ∃ t, f_TJ_makeOne_b9 0 h' (rc 1 s) (nI k) (nI (nS w s)) = some (Sum.inr t) ∧ _
    unfold f_TJ_makeOne_b9
    obtain ⟨h2, q, e2, L, F2⟩ := RG_sort (cd := cd1 w s) (N := nS w s) (fun o ho => by
      have b := sp_rng R hs ho
      have c := vN_lt (fld w s o 4)
      have d : pN (sp w s o) ≤ 4000001 := by unfold pN; omega
      unfold cd1; omega) (fun a b ha hb e => by
      have := cd1_mod (w := w) (s := s) (show a < 64 by omega)
      have := cd1_mod (w := w) (s := s) (show b < 64 by omega)
      omega) C'
    have Ft := Fr.tr F2
    have V2 : SV h2 1 w := V.cg (fun a ha => Ft.1 a (by omega))
    have O2 := O.fc (h' := h2) (Ft.1 34 (by decide)) (Ft.1 35 (by decide)) (Ft.1 36 (by decide))
    obtain ⟨h3, e3, F3, np3, op3, re3, ct3, g3, O3⟩ := X_make93 V2 R hs hF L O2
    rw [V'.2.1, if_pos (nle _), Nat.zero_add, e2]
    simp only [Option.bind_some, Nat.zero_add]
    rw [O2.1.2.1, e3]
    refine ⟨_, rfl, (Ft.fr1.mono (by simp <;> omega)).tr (F3.mono (by simp <;> omega)), np3, op3, re3, ct3, g3, O3.cgD (fun o ho => ?_)⟩
    have rk := ((R s hs).2.2 o ho).2.1
    obtain ⟨j, hj, ej⟩ := nI_of (x := fld w s o 1) (Int32.not_lt.mpr rk.1)
    have any : anyN (fun u => decide (o = q u)) (cN (fun o => decide (fld w s o 1 = nI k)) (nS w s)) = decide (fld w s o 1 = nI k) := by
      by_cases z : fld w s o 1 = nI k
      · rw [decide_eq_true z]
        obtain ⟨i, hi, e⟩ := L.2.2.2 o ho (decide_eq_true z)
        exact (anyN_iff _).mpr ⟨i, hi, decide_eq_true e.symm⟩
      · rw [decide_eq_false z, Bool.eq_false_iff]
        intro y
        obtain ⟨u, hu, e⟩ := (anyN_iff _).mp y
        have e := of_decide_eq_true e
        have := (L.2.1 u hu).2
        rw [← e] at this
        exact z (of_decide_eq_true this)
    rw [any, ej]
    rw [show decide (nI j < nI k) = decide (j < k) from decide_eq_decide.mpr (nI_ltI hj (by omega)), show decide (nI j = nI k) = decide (j = k) from decide_eq_decide.mpr (nI_eq hj (by omega)), show decide (nI j < nI (k + 1)) = decide (j < k + 1) from decide_eq_decide.mpr (nI_ltI hj (by omega)), ← Bool.decide_or]
    exact decide_eq_decide.mpr (by omega)
set_option maxHeartbeats 400000 in
theorem X_one30 (V : SV h 1 w) (R : RowsOk w) (hs : s < 2) (hF : RF w s (nS w s) F) (P : PW h 0 (ocF w s id (fun _ => 0) id)) (v2 v3 : Int32) (K : HP × Int32 → Prop) (hK : ∀ (h' : HP) (np' : Nat) (op' : Nat → Nat) (re' : Nat → Int32) (ct' g' : Nat → Nat), fr [32, 34, 35, 36] h h' → OC h' w s F (fun _ => true) np' op' re' ct' g' → ∃ t, (if v2 = (-1) then some (h', (h'.1 34 2)) else ((f_Pa_answer 34 h' v2 v3 5).bind fun r8 => some (h', r8))) = some t ∧ K t) : ∃ t, f_TJ_one_l30 0 h v2 v3 (rc 1 s) (h, 0) = some t ∧ K t := by
  unfold f_TJ_one_l30
  refine loop_inv (body := fun x : HP × Int32 => f_TJ_one_b30 0 x.1 v2 v3 (rc 1 s) x.2) (fun k x => ∃ (h' : HP) (np' : Nat) (op' : Nat → Nat) (re' : Nat → Int32) (ct' g' : Nat → Nat), x = (h', nI k) ∧ fr [32, 34, 35, 36] h h' ∧ OC h' w s F (fun o => decide (fld w s o 1 < nI k)) np' op' re' ct' g') 10 K (fun k x hk hI => ?_) (fun x hI => ?_) (h, 0) ⟨h, 0, id, fun _ => 0, id, id, rfl, fr.rf, ⟨P, fun i hi => by omega, by omega, fun o ho d => ?_, fun i hi => by omega, fun i j h1 h2 => by omega, fun i j h1 h2 => by omega⟩⟩
  · obtain ⟨h', np', op', re', ct', g', rfl, Fr, O'⟩ := hI
    obtain ⟨h2, e2, F2, np2, op2, re2, ct2, g2, O2⟩ := X_makeOne (V.fr Fr (by decide)) R hs hF hk O'
    show ∃ s', f_TJ_one_b30 0 h' v2 v3 (rc 1 s) (nI k) = some (Sum.inl s') ∧ _
    unfold f_TJ_one_b30
    rw [if_neg (show ¬ (10 : Int32) ≤ nI k from nI_ge (b := 10) hk (by decide)), e2, nI_1]
    exact ⟨_, rfl, h2, np2, op2, re2, ct2, g2, rfl, Fr.tr F2, O2⟩
  · obtain ⟨h', np', op', re', ct', g', rfl, Fr, O'⟩ := hI
    show ∃ t, f_TJ_one_b30 0 h' v2 v3 (rc 1 s) (nI 10) = some (Sum.inr t) ∧ K t
    unfold f_TJ_one_b30
    rw [if_pos (show (10 : Int32) ≤ nI 10 from nle 10), Nat.zero_add]
    obtain ⟨t, e, k⟩ := hK h' np' op' re' ct' g' Fr (O'.cgD (fun o ho => decide_eq_true (by
      have rk := ((R s hs).2.2 o ho).2.1
      exact Int32.lt_of_le_of_lt rk.2 (by decide))))
    rw [e]
    exact ⟨t, rfl, k⟩
  · have rk := ((R s hs).2.2 o ho).2.1
    have d := of_decide_eq_true d
    exact absurd (Int32.lt_of_le_of_lt rk.1 d) (by decide)
end OK1
