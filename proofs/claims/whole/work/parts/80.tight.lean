/-! the reference draws the net tight: the greatest closed net -/
def IT (N F : Nat → Nat) : Prop := (∀ j, j < 36 → F j < 8192) ∧ (∀ j, j < 36 → sub (F j) (N j)) ∧ ∀ M : Nat → Nat, (∀ j, j < 36 → M j < 8192) → clsd M → (∀ j, j < 36 → sub (M j) (N j)) → ∀ j, j < 36 → sub (M j) (F j)
def TT (F : Nat → Nat) (i j k : Nat) : Prop := i ≠ j → j ≠ k → i ≠ k → sub (F (6 * i + k)) (cpN (F (6 * i + j)) (F (6 * j + k)))
def tg (F : Nat → Nat) (i j k : Nat) : Nat → Nat := fun x => if x = 6 * i + k then F (6 * i + k) &&& cpN (F (6 * i + j)) (F (6 * j + k)) else F x
set_option maxHeartbeats 400000 in
theorem IT_tg {N F : Nat → Nat} {i j k : Nat} (H : IT N F) (hi : i < 6) (hj : j < 6) (hk : k < 6) (h1 : i ≠ j) (h2 : j ≠ k) (h3 : i ≠ k) : IT N (tg F i j k) := by
  obtain ⟨a, b, c⟩ := H
  refine ⟨fun x hx => ?_, fun x hx => ?_, fun M m1 m2 m3 x hx => ?_⟩
  · unfold tg
    by_cases z : x = 6 * i + k
    · rw [if_pos z]; exact and_lt13 (cpN_lt _ _)
    · rw [if_neg z]; exact a x hx
  · unfold tg
    by_cases z : x = 6 * i + k
    · rw [if_pos z, z]; exact (and_l _ _).tr (b _ (by omega))
    · rw [if_neg z]; exact b x hx
  · unfold tg
    have cc := c M m1 m2 m3
    by_cases z : x = 6 * i + k
    · rw [if_pos z, z]
      exact sub_and (cc _ (by omega)) ((m2 i j k hi hj hk h1 h2 h3).tr (cpN_mono (cc _ (by omega)) (cc _ (by omega))))
    · rw [if_neg z]; exact cc x hx
/-- the reference's tight net -/
def TM (m0 m : HP) (F : Nat → Nat) : Prop := (∀ j, j < 36 → m.1 10 j = nI (F j)) ∧ CC m ∧ (∀ j, j ≠ 12 → m.1 0 j = m0.1 0 j) ∧ ∀ a, a ≠ 0 → a ≠ 9 → a ≠ 10 → m.1 a = m0.1 a
set_option maxHeartbeats 400000 in
theorem CC.up10 {m : HP} {j : Nat} {v : Int32} (C : CC m) : CC (upI m 10 j v) := by
  unfold CC TBl at *
  rw [upI_at _ _ _ _ (show 0 ≠ 10 by decide), upI_at _ _ _ _ (show 9 ≠ 10 by decide)]; exact C
section TG
variable {m0 m : HP} {N F F0 : Nat → Nat} {i j k : Nat}
set_option maxHeartbeats 400000 in
theorem M_tighter (T : TM m0 m F) (hF : ∀ j, j < 36 → F j < 8192) (hi : i < 6) (hj : j < 6) (hk : k < 6) : ∃ m', f_Mo_isTighter 0 m (nI i) (nI j) (nI k) = some (m', if F (6 * i + k) &&& cpN (F (6 * i + j)) (F (6 * j + k)) = F (6 * i + k) then 0 else 1) ∧ TM m0 m' (tg F i j k) := by
  obtain ⟨t1, t2, t3, t4⟩ := T
  have l : ∀ a b : Nat, (6 : Int32) * nI a + nI b = nI (6 * a + b) := fun a b => by rw [show (6 : Int32) * nI a = nI (6 * a) from pk_mul 6 a, nI_add]
  obtain ⟨m1, e1, c1, f1, f2⟩ := M_composedOf t2 (nI (F (6 * i + j))) (nI (F (6 * j + k)))
  rw [cmS_nI (hF _ (by omega)) (hF _ (by omega))] at e1
  have hlt := cpN_lt (F (6 * i + j)) (F (6 * j + k))
  have hik := hF (6 * i + k) (by omega)
  have and1 : nI (F (6 * i + k)) &&& nI (cpN (F (6 * i + j)) (F (6 * j + k))) = nI (F (6 * i + k) &&& cpN (F (6 * i + j)) (F (6 * j + k))) := nI_and (by omega) (by omega)
  have alt : F (6 * i + k) &&& cpN (F (6 * i + j)) (F (6 * j + k)) < 8192 := and_lt13 hlt
  have b1 : inb (nI (6 * i + k)) 36 := inb_nI (by omega) (by decide)
  have b2 : inb (nI (6 * i + j)) 36 := inb_nI (by omega) (by decide)
  have b3 : inb (nI (6 * j + k)) 36 := inb_nI (by omega) (by decide)
  refine ⟨upI m1 10 (6 * i + k) (nI (F (6 * i + k) &&& cpN (F (6 * i + j)) (F (6 * j + k)))), ?_, fun x hx => ?_, c1.up10, fun x hx => ?_, fun a h1 h2 h3 => ?_⟩
  · unfold f_Mo_isTighter
    rw [l, l, l, if_pos b1, if_pos b2, if_pos b3, ix_nI (show 6 * i + k < 2 ^ 31 by omega), ix_nI (show 6 * i + j < 2 ^ 31 by omega), ix_nI (show 6 * j + k < 2 ^ 31 by omega), Nat.zero_add, t1 (6 * i + k) (by omega), t1 (6 * i + j) (by omega), t1 (6 * j + k) (by omega)]
    refine bsome e1 ?_
    rw [if_pos b1, if_pos b1, and1, upI_s, if_pos rfl]
    by_cases z : F (6 * i + k) &&& cpN (F (6 * i + j)) (F (6 * j + k)) = F (6 * i + k)
    · rw [if_pos (by rw [z]), if_pos z]
    · rw [if_neg (fun e => z ((nI_eq (by omega) (by omega)).mp e)), if_neg z]
  · unfold tg
    rw [upI_s]
    by_cases z : x = 6 * i + k
    · rw [if_pos z, if_pos z]
    · rw [if_neg z, if_neg z, f2 10 (by decide) (by decide)]; exact t1 x hx
  · rw [upI_at _ _ _ _ (by decide), f1 x hx]; exact t3 x hx
  · rw [upI_at _ _ _ _ h3, f2 a h1 h2]; exact t4 a h1 h2 h3
def OT (N F0 F : Nat → Nat) (more : Int32) (i j k : Nat) : Prop := IT N F ∧ ((more = 0 ∧ F = F0 ∧ ∀ a b c, a < 6 → b < 6 → c < 6 → (a < i ∨ (a = i ∧ (b < j ∨ (b = j ∧ c < k)))) → TT F0 a b c) ∨ (more = 1 ∧ smF F 36 < smF F0 36))
set_option maxHeartbeats 400000 in
theorem M_t57 (hi : i < 6) (hj : j < 6) {more : Int32} (T : TM m0 m F) (O : OT N F0 F more i j 0) : ∃ m' F' more', f_Mo_tightens_l57 0 m (nI i) (nI j) (m, more, 0) = some (Sum.inl (m', more', nI (j + 1))) ∧ TM m0 m' F' ∧ OT N F0 F' more' i (j + 1) 0 := by
  unfold f_Mo_tightens_l57
  have key := loop_inv (body := fun x : HP × Int32 × Int32 => f_Mo_tightens_b57 0 x.1 (nI i) (nI j) x.2.1 x.2.2) (fun k x => ∃ m' F' more', x = (m', more', nI k) ∧ TM m0 m' F' ∧ OT N F0 F' more' i j k) 6 (fun y => ∃ m' F' more', y = Sum.inl (m', more', nI (j + 1)) ∧ TM m0 m' F' ∧ OT N F0 F' more' i (j + 1) 0) (fun k x hk hI => ?_) (fun x hI => ?_) (m, more, 0) ⟨m, F, more, rfl, T, O⟩
  · obtain ⟨y, e, m', F', more', rfl, T', O'⟩ := key
    exact ⟨m', F', more', e, T', O'⟩
  · obtain ⟨m', F', more', rfl, T', O'⟩ := hI
    have keep : TT F' i j k → OT N F0 F' more' i j (k + 1) := fun z => by
      refine ⟨O'.1, ?_⟩
      rcases O'.2 with ⟨e1, e2, e3⟩ | e1
      · refine Or.inl ⟨e1, e2, fun a b c ha hb hc h => ?_⟩
        by_cases y : a = i ∧ b = j ∧ c = k
        · rw [y.1, y.2.1, y.2.2, ← e2]; exact z
        · exact e3 a b c ha hb hc (by omega)
      · exact Or.inr e1
    show ∃ s', f_Mo_tightens_b57 0 m' (nI i) (nI j) more' (nI k) = some (Sum.inl s') ∧ _
    unfold f_Mo_tightens_b57
    rw [if_neg (show ¬ (6 : Int32) ≤ nI k from nI_ge (b := 6) hk (by decide)), nI_1]
    by_cases z1 : i = j
    · rw [if_pos (by rw [z1])]
      exact ⟨_, rfl, m', F', more', rfl, T', keep (fun a => absurd z1 a)⟩
    · rw [if_neg (fun e => z1 ((nI_eq (by omega) (by omega)).mp e))]
      by_cases z2 : j = k
      · rw [if_pos (by rw [z2])]
        exact ⟨_, rfl, m', F', more', rfl, T', keep (fun _ a => absurd z2 a)⟩
      · rw [if_neg (fun e => z2 ((nI_eq (by omega) (by omega)).mp e))]
        by_cases z3 : i = k
        · rw [if_pos (by rw [z3])]
          exact ⟨_, rfl, m', F', more', rfl, T', keep (fun _ _ a => absurd z3 a)⟩
        · rw [if_neg (fun e => z3 ((nI_eq (by omega) (by omega)).mp e))]
          obtain ⟨m2, e2, T2⟩ := M_tighter T' O'.1.1 hi hj hk
          have I2 := IT_tg O'.1 hi hj hk z1 z2 z3
          by_cases y : F' (6 * i + k) &&& cpN (F' (6 * i + j)) (F' (6 * j + k)) = F' (6 * i + k)
          · rw [if_pos y] at e2
            have same : tg F' i j k = F' := funext (fun x => by
              unfold tg
              by_cases u : x = 6 * i + k
              · rw [if_pos u, u]; exact y
              · rw [if_neg u])
            rw [same] at T2
            refine ⟨(m2, more', nI (k + 1)), bsome e2 (if_pos rfl), m2, F', more', rfl, T2, keep (fun _ _ _ => ?_)⟩
            have := and_r (F' (6 * i + k)) (cpN (F' (6 * i + j)) (F' (6 * j + k)))
            rw [y] at this; exact this
          · rw [if_neg y] at e2
            refine ⟨(m2, 1, nI (k + 1)), bsome e2 (if_neg one0), m2, _, 1, rfl, T2, I2, Or.inr ⟨rfl, ?_⟩⟩
            have lt : F' (6 * i + k) &&& cpN (F' (6 * i + j)) (F' (6 * j + k)) < F' (6 * i + k) := by
              have := Nat.and_le_left (n := F' (6 * i + k)) (m := cpN (F' (6 * i + j)) (F' (6 * j + k)))
              omega
            have su := smF_up (F := F') (a := 6 * i + k) lt 36
            rw [if_pos (by omega)] at su
            have su' : smF (tg F' i j k) 36 + 1 ≤ smF F' 36 := su
            rcases O'.2 with ⟨-, e3, -⟩ | ⟨-, e3⟩
            · rw [← e3]; omega
            · omega
  · obtain ⟨m', F', more', rfl, T', O'⟩ := hI
    show ∃ t, f_Mo_tightens_b57 0 m' (nI i) (nI j) more' (nI 6) = some (Sum.inr t) ∧ _
    unfold f_Mo_tightens_b57
    rw [if_pos (show (6 : Int32) ≤ nI 6 from nle 6), nI_1]
    refine ⟨_, rfl, m', F', more', rfl, T', O'.1, ?_⟩
    rcases O'.2 with ⟨e1, e2, e3⟩ | e1
    · exact Or.inl ⟨e1, e2, fun a b c ha hb hc h => e3 a b c ha hb hc (by omega)⟩
    · exact Or.inr e1
set_option maxHeartbeats 400000 in
theorem M_t48 (hi : i < 6) {more : Int32} (T : TM m0 m F) (O : OT N F0 F more i 0 0) : ∃ m' F' more', f_Mo_tightens_l48 0 m (nI i) (m, more, 0) = some (Sum.inl (m', more', nI (i + 1))) ∧ TM m0 m' F' ∧ OT N F0 F' more' (i + 1) 0 0 := by
  unfold f_Mo_tightens_l48
  have key := loop_inv (body := fun x : HP × Int32 × Int32 => f_Mo_tightens_b48 0 x.1 (nI i) x.2.1 x.2.2) (fun j x => ∃ m' F' more', x = (m', more', nI j) ∧ TM m0 m' F' ∧ OT N F0 F' more' i j 0) 6 (fun y => ∃ m' F' more', y = Sum.inl (m', more', nI (i + 1)) ∧ TM m0 m' F' ∧ OT N F0 F' more' (i + 1) 0 0) (fun j x hj hI => ?_) (fun x hI => ?_) (m, more, 0) ⟨m, F, more, rfl, T, O⟩
  · obtain ⟨y, e, m', F', more', rfl, T', O'⟩ := key
    exact ⟨m', F', more', e, T', O'⟩
  · obtain ⟨m', F', more', rfl, T', O'⟩ := hI
    obtain ⟨m2, F2, more2, e2, T2, O2⟩ := M_t57 hi hj T' O'
    show ∃ s', f_Mo_tightens_b48 0 m' (nI i) more' (nI j) = some (Sum.inl s') ∧ _
    unfold f_Mo_tightens_b48
    rw [if_neg (show ¬ (6 : Int32) ≤ nI j from nI_ge (b := 6) hj (by decide)), e2]
    exact ⟨_, rfl, m2, F2, more2, rfl, T2, O2⟩
  · obtain ⟨m', F', more', rfl, T', O'⟩ := hI
    show ∃ t, f_Mo_tightens_b48 0 m' (nI i) more' (nI 6) = some (Sum.inr t) ∧ _
    unfold f_Mo_tightens_b48
    rw [if_pos (show (6 : Int32) ≤ nI 6 from nle 6), nI_1]
    refine ⟨_, rfl, m', F', more', rfl, T', O'.1, ?_⟩
    rcases O'.2 with ⟨e1, e2, e3⟩ | e1
    · exact Or.inl ⟨e1, e2, fun a b c ha hb hc h => e3 a b c ha hb hc (by omega)⟩
    · exact Or.inr e1
set_option maxHeartbeats 400000 in
theorem M_t40 (T : TM m0 m F) (I : IT N F) : ∃ m' F' more', f_Mo_tightens_l40 0 m (m, 0, 0) = some (Sum.inl (m', more')) ∧ TM m0 m' F' ∧ OT N F F' more' 6 0 0 := by
  unfold f_Mo_tightens_l40
  have key := loop_inv (body := fun x : HP × Int32 × Int32 => f_Mo_tightens_b40 0 x.1 x.2.1 x.2.2) (fun i x => ∃ m' F' more', x = (m', more', nI i) ∧ TM m0 m' F' ∧ OT N F F' more' i 0 0) 6 (fun y => ∃ m' F' more', y = Sum.inl (m', more') ∧ TM m0 m' F' ∧ OT N F F' more' 6 0 0) (fun i x hi hI => ?_) (fun x hI => ?_) (m, 0, 0) ⟨m, F, 0, rfl, T, I, Or.inl ⟨rfl, rfl, fun a b c _ _ _ h => by omega⟩⟩
  · obtain ⟨y, e, m', F', more', rfl, T', O'⟩ := key
    exact ⟨m', F', more', e, T', O'⟩
  · obtain ⟨m', F', more', rfl, T', O'⟩ := hI
    obtain ⟨m2, F2, more2, e2, T2, O2⟩ := M_t48 hi T' O'
    show ∃ s', f_Mo_tightens_b40 0 m' more' (nI i) = some (Sum.inl s') ∧ _
    unfold f_Mo_tightens_b40
    rw [if_neg (show ¬ (6 : Int32) ≤ nI i from nI_ge (b := 6) hi (by decide)), e2]
    exact ⟨_, rfl, m2, F2, more2, rfl, T2, O2⟩
  · obtain ⟨m', F', more', rfl, T', O'⟩ := hI
    show ∃ t, f_Mo_tightens_b40 0 m' more' (nI 6) = some (Sum.inr t) ∧ _
    unfold f_Mo_tightens_b40
    rw [if_pos (show (6 : Int32) ≤ nI 6 from nle 6)]
    exact ⟨_, rfl, m', F', more', rfl, T', O'⟩
set_option maxHeartbeats 400000 in
theorem M_t32 (T : TM m0 m F) (I : IT N F) : ∃ m', f_Mo_tightens_l32 0 m (m, 1) = some m' ∧ ∃ C, TM m0 m' C ∧ GR N C := by
  unfold f_Mo_tightens_l32
  refine loop_ms (body := fun x : HP × Int32 => f_Mo_tightens_b32 0 x.1 x.2) (fun x => ∃ F', TM m0 x.1 F' ∧ IT N F' ∧ (x.2 = 1 ∨ (x.2 = 0 ∧ clsd F'))) (fun x => if x.2 = 0 then 0 else smF (fun a => ix (x.1.1 10 a)) 36 + 1) (fun m' => ∃ C, TM m0 m' C ∧ GR N C) (fun x hI => ?_) (m, 1) ⟨F, T, I, Or.inl rfl⟩
  obtain ⟨m', more⟩ := x
  obtain ⟨F', T', I', hx⟩ := hI
  replace T' : TM m0 m' F' := T'
  replace hx : more = 1 ∨ (more = 0 ∧ clsd F') := hx
  rcases hx with rfl | ⟨rfl, hR⟩
  · left
    obtain ⟨m2, F2, more2, e2, T2, O2⟩ := M_t40 T' I'
    have sm : ∀ (mm : HP) (FF : Nat → Nat), TM m0 mm FF → IT N FF → smF (fun a => ix (mm.1 10 a)) 36 = smF FF 36 := fun mm FF h1 h2 => smF_congr _ (fun a ha => by
      show ix (mm.1 10 a) = FF a
      rw [h1.1 a ha, ix_nI (by have := h2.1 a ha; omega)])
    refine ⟨(m2, more2), ?_, ⟨F2, T2, O2.1, ?_⟩, ?_⟩
    · show f_Mo_tightens_b32 0 m' 1 = _
      unfold f_Mo_tightens_b32
      rw [if_neg one0, e2]
    · rcases O2.2 with ⟨e, eF, hh⟩ | ⟨e, -⟩
      · refine Or.inr ⟨e, fun a b c ha hb hc h1 h2 h3 => ?_⟩
        rw [eF]
        exact hh a b c ha hb hc (Or.inl ha) h1 h2 h3
      · exact Or.inl e
    · show (if more2 = 0 then 0 else smF (fun a => ix (m2.1 10 a)) 36 + 1) < (if (1 : Int32) = 0 then 0 else smF (fun a => ix (m'.1 10 a)) 36 + 1)
      rw [if_neg one0, sm m' F' T' I', sm m2 F2 T2 O2.1]
      rcases O2.2 with ⟨e, eF, hh⟩ | ⟨e, hl⟩
      · rw [if_pos e]; omega
      · rw [e, if_neg one0]; omega
  · right
    refine ⟨m', ?_, F', T', I'.1, I'.2.1, hR, I'.2.2⟩
    show f_Mo_tightens_b32 0 m' 0 = _
    unfold f_Mo_tightens_b32
    rw [if_pos rfl]; rfl
set_option maxHeartbeats 400000 in
theorem M_tightens (C : CC m) (hN : ∀ j, j < 36 → N j < 8192) (hw : ∀ j, j < 36 → m.1 1 (4064 + j) = nI (N j)) : ∃ m' C', f_Mo_tightens 0 m = some m' ∧ TM m m' C' ∧ GR N C' := by
  unfold f_Mo_tightens f_Mo_tightens_l2
  have key := loop_inv (body := fun x : HP × Int32 => f_Mo_tightens_b2 0 x.1 x.2) (fun t x => ∃ m' : HP, x = (m', nI t) ∧ (∀ a, a ≠ 10 → m'.1 a = m.1 a) ∧ CC m' ∧ ∀ j, j < t → m'.1 10 j = nI (N j)) 36 (fun m' => ∃ C', TM m m' C' ∧ GR N C') (fun t x ht hI => ?_) (fun x hI => ?_) (m, 0) ⟨m, rfl, fun _ _ => rfl, C, fun j hj => by omega⟩
  · obtain ⟨m', e, C', h⟩ := key
    exact ⟨m', C', e, h⟩
  · obtain ⟨m', rfl, f1, f2, f3⟩ := hI
    have l : (4064 : Int32) + nI t = nI (4064 + t) := nI_add 4064 t
    show ∃ s', f_Mo_tightens_b2 0 m' (nI t) = some (Sum.inl s') ∧ _
    unfold f_Mo_tightens_b2
    simp only [Nat.zero_add]
    rw [if_neg (show ¬ (36 : Int32) ≤ nI t from nI_ge (b := 36) ht (by decide)), l, if_pos (inb_nI (show 4064 + t < 4100 by omega) (by decide)), if_pos (inb_nI ht (by decide)), ix_nI (show 4064 + t < 2 ^ 31 by omega), ix_nI (show t < 2 ^ 31 by omega), f1 1 (by decide), hw t ht, nI_1]
    refine ⟨_, rfl, _, rfl, fun a ha => by rw [upI_at _ _ _ _ ha]; exact f1 a ha, f2.up10, fun j hj => ?_⟩
    rw [upI_s]
    by_cases z : j = t
    · rw [if_pos z, z]
    · rw [if_neg z]; exact f3 j (by omega)
  · obtain ⟨m', rfl, f1, f2, f3⟩ := hI
    obtain ⟨m2, e2, C', T2, G2⟩ := M_t32 (m0 := m) (N := N) (F := N) (m := m') ⟨f3, f2, fun j hj => by rw [f1 0 (by decide)], fun a _ _ h3 => f1 a h3⟩ ⟨hN, fun j _ => sub.rf _, fun M _ _ h j hj => h j hj⟩
    show ∃ t, f_Mo_tightens_b2 0 m' (nI 36) = some (Sum.inr t) ∧ _
    unfold f_Mo_tightens_b2
    rw [if_pos (show (36 : Int32) ≤ nI 36 from nle 36), e2]
    exact ⟨_, rfl, C', T2, G2⟩
end TG
