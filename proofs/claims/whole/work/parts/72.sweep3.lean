/-! sweep: the class begins -/
section SX
variable {h : HP} {w : Nat → Int32} {s : Nat}
set_option maxHeartbeats 400000 in
theorem X_code {pl : Int32} {st s r : Nat} (h1 : -2000000 ≤ pl.toInt) (h2 : pl.toInt ≤ 2000001) (hst : st < 2) (hs : s < 2) (hr : r < 40) {v1 : Int32} (e1 : v1 = nI st) : f_Cu_eventCode pl v1 (nI s) (nI r) = some (nI (pN pl * 256 + st * 128 + s * 64 + r)) := by
  subst e1
  have hp : pN pl ≤ 4000001 := by unfold pN; omega
  unfold f_Cu_eventCode
  rw [pl_nI h1 h2, pk_shlN (8 &&& 31) 8 (by decide) (by omega), pk_shlN (7 &&& 31) 7 (by decide) (by omega), pk_shlN (6 &&& 31) 6 (by decide) (by omega), nI_add, nI_add, nI_add]
set_option maxHeartbeats 400000 in
theorem CW_put {n : Nat} {f : Nat → Int64} {v : Int64} (C : CW h 32 n f) (hn : n < 160) (hv : v = f n) : ∃ h', f_Co_put 32 h v = some h' ∧ CW h' 32 (n + 1) f ∧ frC 32 h h' := by
  obtain ⟨h', e, W, F⟩ := X_cput C hn v
  refine ⟨h', e, ⟨W.1, W.2.1, fun i hi => ?_⟩, F⟩
  rw [W.2.2 i hi]
  show (if i = n then v else f i) = f i
  by_cases z : i = n
  · rw [if_pos z, z]; exact hv
  · rw [if_neg z]
def ecs (w : Nat → Int32) (s r : Nat) : Nat := pN (sp w s r) * 256 + 1 * 128 + s * 64 + r
def ece (w : Nat → Int32) (s r : Nat) : Nat := pN (ep w s r) * 256 + 0 * 128 + s * 64 + r
set_option maxHeartbeats 400000 in
theorem phE_st (R : RowsOk w) (hs : s < 2) {r : Nat} (hr : r < nS w s) : phE w (fE (nS w 0) (2 * (nS w 0 * s + r))) = Int32.toInt64 (nI (ecs w s r)) := by
  have hn := (R s hs).2.1
  have fa0 := fE_at (n0 := nS w 0) (s := s) (r := r) (d := 0) hs (fun z => by subst z; exact hr) (by omega)
  have e1 := evt_sE (s := s) (r := r) (d := 1) (by omega) (by omega)
  have e2 : (2 * (40 * s + r) + 1) % 2 = 1 := by omega
  rw [Nat.add_zero, Nat.sub_zero] at fa0
  rw [fa0]
  unfold phE evC plE
  rw [e1.1, e1.2, e2, if_pos rfl]
  rfl
set_option maxHeartbeats 400000 in
theorem phE_en (R : RowsOk w) (hs : s < 2) {r : Nat} (hr : r < nS w s) : phE w (fE (nS w 0) (2 * (nS w 0 * s + r) + 1)) = Int32.toInt64 (nI (ece w s r)) := by
  have hn := (R s hs).2.1
  have fa1 := fE_at (n0 := nS w 0) (s := s) (r := r) (d := 1) hs (fun z => by subst z; exact hr) (by omega)
  have e0 := evt_sE (s := s) (r := r) (d := 0) (by omega) (by omega)
  have e2 : (2 * (40 * s + r) + 0) % 2 = 0 := by omega
  rw [fa1, show 2 * (40 * s + r) + 1 - 1 = 2 * (40 * s + r) + 0 by omega]
  unfold phE evC plE
  rw [e0.1, e0.2, e2, if_neg (by decide)]
  rfl
set_option maxHeartbeats 400000 in
theorem X_codeS (R : RowsOk w) (hs : s < 2) {r : Nat} (hr : r < nS w s) : f_Cu_eventCode (sp w s r) 1 (nI s) (nI r) = some (nI (ecs w s r)) := by
  have hN := (R s hs).2.1
  have rg := sp_rng R hs hr
  rw [X_code (st := 1) (by omega) (by omega) (by omega) hs (by omega) (show (1 : Int32) = nI 1 from rfl), ecs]
set_option maxHeartbeats 400000 in
theorem X_codeE (R : RowsOk w) (hs : s < 2) {r : Nat} (hr : r < nS w s) : f_Cu_eventCode (ep w s r) 0 (nI s) (nI r) = some (nI (ece w s r)) := by
  have hN := (R s hs).2.1
  have rg := sp_rng R hs hr
  rw [X_code (st := 0) (by omega) (by omega) (by omega) hs (by omega) (show (0 : Int32) = nI 0 from rfl), ece]
set_option maxHeartbeats 400000 in
theorem bsome {α β : Type} {x : Option α} {f : α → Option β} {a : α} {y : Option β} (h : x = some a) (h2 : f a = y) : x.bind f = y := by
  subst h; exact h2
set_option maxHeartbeats 400000 in
theorem X_b61b {h1 h2 : HP} {r : Nat} {sp' ep' x0 x1 : Int32} {cc : Nat} {v3 : Int32} (hr : ¬ h.1 cc 5 ≤ nI r) (c0 : f_Cu_eventCode sp' 1 v3 (nI r) = some x0) (c1 : f_Cu_eventCode ep' 0 v3 (nI r) = some x1) (s0 : f_Ro_startPlace cc h (nI r) = some sp') (p1 : f_Co_put 32 h (Int32.toInt64 x0) = some h1) (s1 : f_Ro_endPlace cc h1 (nI r) = some ep') (p2 : f_Co_put 32 h1 (Int32.toInt64 x1) = some h2) : f_Cu_begin_b61 23 h 1 32 v3 cc (nI r) = some (Sum.inl (h2, nI (r + 1))) := by
  unfold f_Cu_begin_b61
  rw [if_neg hr, nI_1]
  exact bsome s0 (bsome c0 (bsome p1 (bsome s1 (bsome c1 (bsome p2 rfl)))))
set_option maxHeartbeats 400000 in
theorem X_b61a {f : Nat → Int64} {b r : Nat} {sp' ep' x0 x1 : Int32} {cc : Nat} {v3 : Int32} (hr : ¬ h.1 cc 5 ≤ nI r) (c0 : f_Cu_eventCode sp' 1 v3 (nI r) = some x0) (c1 : f_Cu_eventCode ep' 0 v3 (nI r) = some x1) (s0 : f_Ro_startPlace cc h (nI r) = some sp') (s1 : ∀ h', frC 32 h h' → f_Ro_endPlace cc h' (nI r) = some ep') (hb : b + 1 < 160) (C : CW h 32 b f) (f0 : f b = Int32.toInt64 x0) (f1 : f (b + 1) = Int32.toInt64 x1) : ∃ h', f_Cu_begin_b61 23 h 1 32 v3 cc (nI r) = some (Sum.inl (h', nI (r + 1))) ∧ CW h' 32 (b + 1 + 1) f ∧ frC 32 h h' := by
  have hb0 : b < 160 := Nat.lt_of_succ_lt hb
  obtain ⟨h1, p1, C1, F1⟩ := CW_put C hb0 f0.symm
  obtain ⟨h2, p2, C2, F2⟩ := CW_put C1 hb f1.symm
  have e1 := s1 h1 F1
  refine ⟨h2, ?_, C2, F1.tr F2⟩
  exact X_b61b hr c0 c1 s0 p1 e1 p2
set_option maxHeartbeats 400000 in
theorem X_b61 {f : Nat → Int64} {b r : Nat} (V : RV h (rc 1 s) w s (nS w s)) (R : RowsOk w) (hs : s < 2) (hr : r < nS w s) (hb : b + 1 < 160) (C : CW h 32 b f) (f0 : f b = Int32.toInt64 (nI (ecs w s r))) (f1 : f (b + 1) = Int32.toInt64 (nI (ece w s r))) : ∃ h', f_Cu_begin_b61 23 h 1 32 (nI s) (rc 1 s) (nI r) = some (Sum.inl (h', nI (r + 1))) ∧ CW h' 32 (b + 1 + 1) f ∧ frC 32 h h' := by
  have hN := V.1
  exact X_b61a (by rw [V.2.1]; exact ngt hr hN) (X_codeS R hs hr) (X_codeE R hs hr) (X_start V hr) (fun h' F => X_end (RV.fc V F) hr) hb C f0 f1
set_option maxHeartbeats 400000 in
theorem X_beg61g {f : Nat → Int64} {b : Nat} (V : RV h (rc 1 s) w s (nS w s)) (R : RowsOk w) (hs : s < 2) (hb : b ≤ 80) (C : CW h 32 b f) (f0 : ∀ r, r < nS w s → f (b + 2 * r) = Int32.toInt64 (nI (ecs w s r))) (f1 : ∀ r, r < nS w s → f (b + 2 * r + 1) = Int32.toInt64 (nI (ece w s r))) : ∃ h', f_Cu_begin_l61 23 h 1 32 (nI s) (rc 1 s) (h, 0) = some (Sum.inl (h', nI (s + 1))) ∧ CW h' 32 (b + 2 * nS w s) f ∧ frC 32 h h' := by
  have hN := V.1
  unfold f_Cu_begin_l61
  have key := loop_inv (body := fun x : HP × Int32 => f_Cu_begin_b61 23 x.1 1 32 (nI s) (rc 1 s) x.2) (fun r x => ∃ h', x = (h', nI r) ∧ CW h' 32 (b + 2 * r) f ∧ frC 32 h h') (nS w s) (fun y => ∃ h', y = Sum.inl (h', nI (s + 1)) ∧ CW h' 32 (b + 2 * nS w s) f ∧ frC 32 h h') (fun r x hr hI => ?_) (fun x hI => ?_) (h, 0) ⟨h, rfl, C, frC.rf⟩
  · obtain ⟨y, e, h', rfl, C', F⟩ := key
    exact ⟨h', e, C', F⟩
  · obtain ⟨h', rfl, C', F⟩ := hI
    obtain ⟨h2, e2, C2, F2⟩ := X_b61 (RV.fc V F) R hs hr (by omega) C' (f0 r hr) (f1 r hr)
    exact ⟨_, e2, h2, rfl, C2, F.tr F2⟩
  · obtain ⟨h', rfl, C', F⟩ := hI
    have V' := RV.fc V F
    show ∃ t, f_Cu_begin_b61 23 h' 1 32 (nI s) (rc 1 s) (nI (nS w s)) = some (Sum.inr t) ∧ _
    unfold f_Cu_begin_b61
    rw [V'.2.1, if_pos (nle _), nI_1]
    exact ⟨_, rfl, h', rfl, C', F⟩
set_option maxHeartbeats 400000 in
theorem X_beg61 {f : Nat → Int64} (hf : ∀ k, f k = phE w (fE (nS w 0) k)) (V : RV h (rc 1 s) w s (nS w s)) (R : RowsOk w) (hs : s < 2) (C : CW h 32 (2 * (nS w 0 * s)) f) : ∃ h', f_Cu_begin_l61 23 h 1 32 (nI s) (rc 1 s) (h, 0) = some (Sum.inl (h', nI (s + 1))) ∧ CW h' 32 (2 * (nS w 0 * s + nS w s)) f ∧ frC 32 h h' := by
  have n0 := (R 0 (by omega)).2.1
  have ns : 2 * (nS w 0 * s) ≤ 80 := by
    rcases (show s = 0 ∨ s = 1 by omega) with z | z
    · subst z; omega
    · subst z; omega
  have key := X_beg61g V R hs ns C (fun r hr => by
    rw [hf, show 2 * (nS w 0 * s) + 2 * r = 2 * (nS w 0 * s + r) by omega]; exact phE_st R hs hr) (fun r hr => by
    rw [hf, show 2 * (nS w 0 * s) + 2 * r + 1 = 2 * (nS w 0 * s + r) + 1 by omega]; exact phE_en R hs hr)
  rw [show 2 * (nS w 0 * s) + 2 * nS w s = 2 * (nS w 0 * s + nS w s) by omega] at key
  exact key
/-- the class's course as it begins, behind some sides -/
def BG (f : Nat → Int64) (h0 h : HP) (w : Nat → Int32) (s : Nat) : Prop := CW h 32 (2 * (if s = 0 then 0 else if s = 1 then nS w 0 else nS w 0 + nS w 1)) f ∧ (∀ a, a ≠ 26 → a ≠ 27 → a ≠ 32 → h.1 a = h0.1 a) ∧ (∀ t, t < s → h.1 26 t = nI 0) ∧ (∀ t u, t < s → u < 4 → h.1 27 (4 * t + u) = nI (cN (fun r => decide (fld w t r 0 = nI u)) (nS w t)))
set_option maxHeartbeats 400000 in
theorem X_beg28 {f : Nat → Int64} (hf : ∀ k, f k = phE w (fE (nS w 0) k)) {h0 : HP} (V : SV h0 1 w) (R : RowsOk w) (hs : s < 2) (B : BG f h0 h w s) : ∃ h', f_Cu_begin_b6 23 h 1 32 (nI s) = some (Sum.inl (h', nI (s + 1))) ∧ BG f h0 h' w (s + 1) := by
  have hN := (R s hs).2.1
  have hrc : rc 1 s ≤ 8 := by unfold rc; split <;> omega
  obtain ⟨C, F, a26, a27⟩ := B
  unfold f_Cu_begin_b6
  rw [if_neg (show ¬ (2 : Int32) ≤ nI s from nI_ge (b := 2) hs (by decide)), X_rowsOf hs rfl]
  simp only [Option.bind_some, Nat.reduceAdd]
  rw [if_pos (inb_nI hs (by decide)), ix_nI (by omega)]
  unfold f_Cu_begin_l28
  have key := loop_inv (body := fun x : HP × Int32 => f_Cu_begin_b28 23 x.1 1 32 (nI s) (rc 1 s) x.2) (fun u x => ∃ h' : HP, x = (h', nI u) ∧ (∀ a, a ≠ 26 → a ≠ 27 → h'.1 a = h.1 a) ∧ h'.2 = h.2 ∧ (∀ t, h'.1 26 t = if t = s then nI 0 else h.1 26 t) ∧ ∀ j, h'.1 27 j = if 4 * s ≤ j ∧ j < 4 * s + u then nI (cN (fun r => decide (fld w s r 0 = nI (j - 4 * s))) (nS w s)) else h.1 27 j) 4 (fun y => ∃ h', y = Sum.inl (h', nI (s + 1)) ∧ BG f h0 h' w (s + 1)) (fun u x hu hI => ?_) (fun x hI => ?_) (upI h 26 s 0, 0) ⟨_, rfl, fun a h1 _ => upI_at _ _ _ _ h1, rfl, fun t => by rw [upI_s]; rfl, fun j => by rw [upI_ne _ _ _ _ (by decide), if_neg (by omega)]⟩
  · obtain ⟨y, e, h', rfl, B'⟩ := key
    exact ⟨h', e, B'⟩
  · obtain ⟨h', rfl, f1, f2, f3, f4⟩ := hI
    have V' : RV h' (rc 1 s) w s (nS w s) := (V.rv hs).cgh (fun a h1 h2 => by rw [f1 a (by omega) (by omega), F a (by omega) (by omega) (by omega)])
    have l : nI s * 4 + nI u = nI (4 * s + u) := by rw [show nI s * 4 = nI (s * 4) from pk_mul s 4, nI_add, Nat.mul_comm]
    show ∃ s', f_Cu_begin_b28 23 h' 1 32 (nI s) (rc 1 s) (nI u) = some (Sum.inl s') ∧ _
    unfold f_Cu_begin_b28
    rw [if_neg (show ¬ (4 : Int32) ≤ nI u from nI_ge (b := 4) hu (by decide)), X_countInRun V']
    simp only [Option.bind_some, Nat.reduceAdd]
    rw [l, if_pos (inb_nI (show 4 * s + u < 8 by omega) (by decide)), ix_nI (by omega), nI_1]
    refine ⟨_, rfl, _, rfl, fun a h1 h2 => by rw [upI_at _ _ _ _ h2]; exact f1 a h1 h2, f2, fun t => by rw [upI_ne _ _ _ _ (by decide)]; exact f3 t, fun j => ?_⟩
    rw [upI_s, f4 j]
    by_cases z : j = 4 * s + u
    · rw [if_pos z, if_pos (by omega), z, show 4 * s + u - 4 * s = u by omega]
    · rw [if_neg z]
      by_cases y : 4 * s ≤ j ∧ j < 4 * s + u
      · rw [if_pos y, if_pos (by omega)]
      · rw [if_neg y, if_neg (by omega)]
  · obtain ⟨h', rfl, f1, f2, f3, f4⟩ := hI
    have V' : RV h' (rc 1 s) w s (nS w s) := (V.rv hs).cgh (fun a h1 h2 => by rw [f1 a (by omega) (by omega), F a (by omega) (by omega) (by omega)])
    have C' : CW h' 32 (2 * (nS w 0 * s)) f := by
      have e : (if s = 0 then 0 else if s = 1 then nS w 0 else nS w 0 + nS w 1) = nS w 0 * s := by
        rcases (show s = 0 ∨ s = 1 by omega) with z | z
        · subst z; rw [if_pos rfl]; omega
        · subst z; rw [if_neg (by decide), if_pos rfl]; omega
      rw [e] at C
      exact ⟨C.1, by rw [f1 32 (by decide) (by decide)]; exact C.2.1, fun i hi => by rw [f2]; exact C.2.2 i hi⟩
    obtain ⟨h2, e2, C2, F2⟩ := X_beg61 hf V' R hs C'
    show ∃ t, f_Cu_begin_b28 23 h' 1 32 (nI s) (rc 1 s) (nI 4) = some (Sum.inr t) ∧ _
    unfold f_Cu_begin_b28
    rw [if_pos (show (4 : Int32) ≤ nI 4 from nle 4), e2]
    refine ⟨_, rfl, h2, rfl, ?_, fun a h1 h2' h3 => ?_, fun t ht => ?_, fun t u ht hu => ?_⟩
    · have e : (if s + 1 = 0 then 0 else if s + 1 = 1 then nS w 0 else nS w 0 + nS w 1) = nS w 0 * s + nS w s := by
        rw [if_neg (by omega)]
        rcases (show s = 0 ∨ s = 1 by omega) with z | z
        · subst z; rw [if_pos rfl]; omega
        · subst z; rw [if_neg (by decide)]; omega
      rw [e]; exact C2
    · rw [F2.1 a h3, f1 a h1 h2']; exact F a h1 h2' h3
    · rw [F2.1 26 (by decide), f3 t]
      by_cases z : t = s
      · rw [if_pos z]
      · rw [if_neg z]; exact a26 t (by omega)
    · rw [F2.1 27 (by decide), f4]
      by_cases z : t = s
      · rw [if_pos (by omega), z, show 4 * s + u - 4 * s = u by omega]
      · rw [if_neg (by omega)]; exact a27 t u (by omega) hu
set_option maxHeartbeats 400000 in
theorem X_beg141 {n : Nat} {f : Nat → Int64} (C : CW h 32 n f) (e1 : h.1 23 1 = nI n) (K : HP → Prop) (hK : ∀ h' : HP, (∀ a, a ≠ 24 → h'.1 a = h.1 a) → (∀ k, k < n → h'.1 24 k = Int64.toInt32 (f k)) → ∃ t, f_Cu_begin_b141 23 h' 32 (nI n) = some (Sum.inr t) ∧ K t) : ∃ t, f_Cu_begin_l141 23 h 32 (h, 0) = some t ∧ K t := by
  have hn := C.1
  unfold f_Cu_begin_l141
  refine loop_inv (body := fun x : HP × Int32 => f_Cu_begin_b141 23 x.1 32 x.2) (fun t x => ∃ h' : HP, x = (h', nI t) ∧ (∀ a, a ≠ 24 → h'.1 a = h.1 a) ∧ h'.2 = h.2 ∧ ∀ k, k < t → h'.1 24 k = Int64.toInt32 (f k)) n K (fun t x ht hI => ?_) (fun x hI => ?_) (h, 0) ⟨h, rfl, fun _ _ => rfl, rfl, fun k hk => by omega⟩
  · obtain ⟨h', rfl, f1, f2, f3⟩ := hI
    have C' : CW h' 32 n f := ⟨C.1, by rw [f1 32 (by decide)]; exact C.2.1, fun i hi => by rw [f2]; exact C.2.2 i hi⟩
    show ∃ s', f_Cu_begin_b141 23 h' 32 (nI t) = some (Sum.inl s') ∧ _
    unfold f_Cu_begin_b141
    rw [f1 23 (by decide), e1, if_neg (nI_ge ht (by omega)), X_cat C' ht]
    simp only [Option.bind_some, Nat.reduceAdd]
    rw [if_pos (inb_nI (show t < 160 by omega) (by decide)), ix_nI (by omega), nI_1]
    refine ⟨_, rfl, _, rfl, fun a ha => by rw [upI_at _ _ _ _ ha]; exact f1 a ha, f2, fun k hk => ?_⟩
    rw [upI_s]
    by_cases z : k = t
    · rw [if_pos z, z]
    · rw [if_neg z]; exact f3 k (by omega)
  · obtain ⟨h', rfl, f1, f2, f3⟩ := hI
    exact hK h' f1 f3
end SX
