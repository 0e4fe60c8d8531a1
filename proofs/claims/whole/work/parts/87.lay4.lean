/-! lay: the class's loops -/
def knS (w : Nat → Int32) (s a b : Nat) : Nat := ix (kK (sp w s a) (ep w s a) (sp w s b) (ep w s b))
set_option maxHeartbeats 400000 in
theorem knS_eq (w : Nat → Int32) (s a b : Nat) : kK (sp w s a) (ep w s a) (sp w s b) (ep w s b) = nI (knS w s a b) ∧ knS w s a b < 13 := by
  obtain ⟨x, hx, e⟩ := kK_13 (sp w s a) (ep w s a) (sp w s b) (ep w s b)
  unfold knS
  rw [e, ix_nI (by omega)]; exact ⟨rfl, hx⟩
set_option maxHeartbeats 400000 in
theorem knS_sym {w : Nat → Int32} (R : RowsOk w) {s a b : Nat} (hs : s < 2) (ha : a < nS w s) (hb : b < nS w s) : knS w s b a = 12 - knS w s a b := by
  have t := kK_turn (sp_lt_ep R hs ha) (sp_lt_ep R hs hb)
  obtain ⟨e1, l1⟩ := knS_eq w s a b
  obtain ⟨e2, l2⟩ := knS_eq w s b a
  rw [e1, e2, show (12 : Int32) - nI (knS w s a b) = nI (12 - knS w s a b) from pk_sub (a := 12) (by omega)] at t
  exact (nI_eq (by omega) (by omega)).mp t
section LY
variable {h0 h : HP} {w : Nat → Int32} {s n i : Nat}
set_option maxHeartbeats 400000 in
theorem X_ly57 (V : SV h0 1 w) (R : RowsOk w) (hs : s < 2) (hn : n ≤ 6) (hns : n ≤ nS w s) (hi : i < n) (L : lyV h0 h (knS w s) n i (i + 1)) : ∃ h', f_TJ_lay_l57 0 h (nI s) (nI n) (nI i) (h, nI (i + 1)) = some (Sum.inl (h', nI (i + 1))) ∧ lyV h0 h' (knS w s) n i n := by
  unfold f_TJ_lay_l57
  have key := loop_inv (body := fun x : HP × Int32 => f_TJ_lay_b57 0 x.1 (nI s) (nI n) (nI i) x.2) (fun t x => ∃ h' : HP, x = (h', nI (i + 1 + t)) ∧ lyV h0 h' (knS w s) n i (i + 1 + t)) (n - (i + 1)) (fun y => ∃ h' : HP, y = Sum.inl (h', nI (i + 1)) ∧ lyV h0 h' (knS w s) n i n) (fun t x ht hI => ?_) (fun x hI => ?_) (h, nI (i + 1)) ⟨h, rfl, L⟩
  · obtain ⟨y, e, h', rfl, L'⟩ := key
    exact ⟨h', e, L'⟩
  · obtain ⟨h', rfl, L'⟩ := hI
    have V' : SV h' 1 w := V.cgt (fun a h1 h2 => L'.2.2 a (by omega) (by omega))
    obtain ⟨e1, l1⟩ := knS_eq w s i (i + 1 + t)
    have p13 : 2 ^ knS w s i (i + 1 + t) < 2 ^ 13 := Nat.pow_lt_pow_right (by decide) l1
    have kd := X_kindOf (o := i + 1 + t) V' hs (show i < nS w s by omega) hs (by omega) (v1 := nI s) (v3 := nI s) rfl rfl
    rw [e1] at kd
    have tl := X_tell (h := h') (i := i) (k := i + 1 + t) (x := 2 ^ knS w s i (i + 1 + t)) (by omega) (by omega) p13
    have tl' := (congrArg (fun v => f_We_tell 29 h' (nI i) (nI (i + 1 + t)) v) (one_shl13 _ l1)).trans tl
    have nx := lyV_tell (k := i + 1 + t) hn (by omega) (by omega) (fun a b _ _ => (knS_eq w s a b).2) (fun a b ha hb => knS_sym R hs (by omega) (by omega)) L'
    refine ⟨(_, nI (i + 1 + (t + 1))), ?_, _, rfl, nx⟩
    show f_TJ_lay_b57 0 h' (nI s) (nI n) (nI i) (nI (i + 1 + t)) = _
    unfold f_TJ_lay_b57
    rw [if_neg (nI_ge (show i + 1 + t < n by omega) (by omega)), nI_1]
    exact bsome kd (bsome tl' rfl)
  · obtain ⟨h', rfl, L'⟩ := hI
    rw [show i + 1 + (n - (i + 1)) = n by omega] at L' ⊢
    show ∃ t, f_TJ_lay_b57 0 h' (nI s) (nI n) (nI i) (nI n) = some (Sum.inr t) ∧ _
    unfold f_TJ_lay_b57
    rw [if_pos (nle _), nI_1]
    exact ⟨_, rfl, h', rfl, L'⟩
end LY
