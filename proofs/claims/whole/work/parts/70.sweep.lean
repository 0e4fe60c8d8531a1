/-! sweep: the events in their order -/
noncomputable def phE (w : Nat → Int32) (e : Nat) : Int64 := (nI (evC w e)).toInt64
noncomputable def kE (w : Nat → Int32) (e : Nat) : Int := k64 (phE w e)
set_option maxHeartbeats 400000 in
theorem posK_map {α β : Type} {key : β → Int} {ph : α → β} {f : Nat → α} {x : α} : ∀ c, posK key (fun i => ph (f i)) (ph x) c = posK (fun a => key (ph a)) f x c
  | 0 => rfl
  | c + 1 => by
    simp only [posK]
    rw [posK_map c]
set_option maxHeartbeats 400000 in
theorem srtK_map {α β : Type} {key : β → Int} {ph : α → β} {f : Nat → α} : ∀ n i, srtK key (fun i => ph (f i)) n i = ph (srtK (fun a => key (ph a)) f n i)
  | 0, i => rfl
  | n + 1, i => by
    have ih : srtK key (fun i => ph (f i)) n = fun i => ph (srtK (fun a => key (ph a)) f n i) := funext (fun j => srtK_map n j)
    simp only [srtK]
    rw [ih]
    unfold insK
    rw [posK_map]
    split
    · rfl
    · split
      · rfl
      · split <;> rfl
set_option maxHeartbeats 400000 in
theorem srtK_all {α : Type} {key : α → Int} {f : Nat → α} {Q : α → Prop} {N : Nat} (h : ∀ i, i < N → Q (f i)) : ∀ n, n ≤ N → ∀ i, i < N → Q (srtK key f n i)
  | 0, _, i, hi => h i hi
  | n + 1, hn, i, hi => by
    have ih := srtK_all (key := key) h n (by omega)
    simp only [srtK]
    unfold insK
    split
    · exact ih i hi
    · split
      · exact ih n (by omega)
      · split
        · exact ih (i - 1) (by omega)
        · exact ih i hi
set_option maxHeartbeats 400000 in
theorem kE_eq {w : Nat → Int32} (R : RowsOk w) {e : Nat} (he : e < 160) (hr : rE e < nS w (sE e)) : kE w e = (evC w e : Int) ∧ evC w e < 2 ^ 31 := by
  have pr := plE_rng R he hr
  have hs := sE_lt he
  have r4 := rE_lt e
  have hp : pN (plE w e) ≤ 4000001 := by unfold pN; omega
  have hb : evC w e < 2 ^ 31 := by unfold evC; omega
  refine ⟨?_, hb⟩
  unfold kE phE k64
  rw [Int32.toInt_toInt64, nI_toInt hb]
set_option maxHeartbeats 400000 in
theorem evC_inj {w : Nat → Int32} {a b : Nat} (ha : a < 160) (hb : b < 160) (h : evC w a = evC w b) : a = b := by
  have h1 := ev_code ha
  have h2 := ev_code hb
  have s1 := sE_lt ha
  have s2 := sE_lt hb
  have r1 := rE_lt a
  have r2 := rE_lt b
  unfold evC at h
  omega
def vE (w : Nat → Int32) (e : Nat) : Prop := e < 160 ∧ rE e < nS w (sE e)
set_option maxHeartbeats 400000 in
theorem M_isAhead {m : HP} {w : Nat → Int32} (hw : m.1 1 = w) (R : RowsOk w) {a b : Nat} (ha : vE w a) (hb : vE w b) : f_Mo_isAhead 0 m (nI a) (nI b) = some (if kE w a < kE w b then 1 else 0) := by
  have p1 := plE_rng R ha.1 ha.2
  have p2 := plE_rng R hb.1 hb.2
  have h1 := ev_code ha.1
  have h2 := ev_code hb.1
  have s1 := sE_lt ha.1
  have s2 := sE_lt hb.1
  have r1 := rE_lt a
  have r2 := rE_lt b
  have a160 := ha.1
  have b160 := hb.1
  have d1 : nI a / 2 = nI (a / 2) := nI_div (b := 2) (by omega) (by omega) (by omega)
  have d2 : nI b / 2 = nI (b / 2) := nI_div (b := 2) (by omega) (by omega) (by omega)
  rw [(kE_eq R ha.1 ha.2).1, (kE_eq R hb.1 hb.2).1]
  unfold f_Mo_isAhead
  rw [M_place ha.1, M_place hb.1, hw, ev_st ha.1, ev_st hb.1, d1, d2]
  simp only [Option.bind_some]
  have key : ∀ x : Bool, (decide ((evC w a : Int) < (evC w b : Int)) = x) → (some (if (evC w a : Int) < (evC w b : Int) then (1 : Int32) else 0)) = some (if x then 1 else 0) := fun x hx => by
    rw [← hx]
    simp only [decide_eq_true_eq]
  by_cases z : plE w a = plE w b
  · rw [if_pos z]
    by_cases y : (if a % 2 = 1 then (1 : Int32) else 0) = (if b % 2 = 1 then 1 else 0)
    · have y' : a % 2 = b % 2 := by
        rcases Nat.mod_two_eq_zero_or_one a with u | u <;> rcases Nat.mod_two_eq_zero_or_one b with v | v <;> rw [u, v] at y ⊢ <;> simp at y
      rw [if_pos y]
      by_cases u : b / 2 ≤ a / 2
      · rw [if_pos (nI_le u (by omega)), if_neg]
        unfold evC; rw [z]; omega
      · rw [if_neg (nI_ge (by omega) (by omega)), if_pos]
        unfold evC; rw [z]; omega
    · rw [if_neg y]
      rcases Nat.mod_two_eq_zero_or_one a with u | u <;> rcases Nat.mod_two_eq_zero_or_one b with v | v
      · rw [u, v] at y; exact absurd rfl y
      · rw [v, if_pos rfl, if_pos (Or.inr rfl), if_pos]
        unfold evC; rw [z]; omega
      · rw [v, if_neg (show ¬ ((0 : Nat) = 1) by decide), if_pos (Or.inl rfl), if_neg]
        unfold evC; rw [z]; omega
      · rw [u, v] at y; exact absurd rfl y
  · rw [if_neg z]
    have zi : (plE w a).toInt ≠ (plE w b).toInt := fun e => z (Int32.toInt_inj.mp e)
    by_cases u : plE w b ≤ plE w a
    · rw [if_pos u, if_neg]
      have u := Int32.le_iff_toInt_le.mp u
      unfold evC pN; omega
    · rw [if_neg u, if_pos]
      have u := Int32.lt_iff_toInt_lt.mp (Int32.not_le.mp u)
      unfold evC pN; omega
/-- the reference's events so far -/
def EW (m : HP) (F : Nat → Nat) (c : Nat) : Prop := m.1 1 616 = nI c ∧ ∀ k, k < c → m.1 1 (621 + k) = nI (F k)
set_option maxHeartbeats 400000 in
theorem M_enters {m : HP} {w : Nat → Int32} {F : Nat → Nat} {c e : Nat} (hw : ∀ j, j < 404 → m.1 1 j = w j) (R : RowsOk w) (W : EW m F c) (hc : c < 160) (he : vE w e) (hF : ∀ k, k < c → vE w (F k)) : ∃ m' : HP, f_Mo_enters 0 m (nI e) = some m' ∧ EW m' (insK (kE w) F c e) (c + 1) ∧ (∀ a, a ≠ 1 → m'.1 a = m.1 a) ∧ ∀ j, j ≠ 616 → (j < 621 ∨ 781 ≤ j) → m'.1 1 j = m.1 1 j := by
  have hp := posK_le (key := kE w) (f := F) (x := e) c
  have up := posK_up (key := kE w) (f := F) (x := e) c
  have dn := posK_dn (key := kE w) (f := F) (x := e) c
  unfold insK
  generalize hP : posK (kE w) F e c = p at *
  have cgA : ∀ (m' : HP) a b, (∀ j, j < 404 → m'.1 1 j = w j) → vE w a → vE w b → f_Mo_isAhead 0 m' (nI a) (nI b) = some (if kE w a < kE w b then 1 else 0) := fun m' a b hw' va vb => by
    have e2 : ∀ j, 2 ≤ j → j < 404 → m'.1 1 j = w j := fun j _ h => hw' j h
    have R' : RowsOk (m'.1 1) := R.cgw e2
    have pl : ∀ x, vE w x → evC (m'.1 1) x = evC w x := fun x vx => by
      unfold evC plE sp ep
      rw [fld_cg e2 (sE_lt vx.1) (rE_lt x) (show 2 < 5 by omega), fld_cg e2 (sE_lt vx.1) (rE_lt x) (show 3 < 5 by omega)]
    have vv : ∀ x, vE w x → vE (m'.1 1) x := fun x vx => ⟨vx.1, by rw [nS_cg e2 (sE_lt vx.1)]; exact vx.2⟩
    have ke : ∀ x, vE w x → kE (m'.1 1) x = kE w x := fun x vx => by unfold kE phE; rw [pl x vx]
    rw [M_isAhead rfl R' (vv a va) (vv b vb), ke a va, ke b vb]
  unfold f_Mo_enters f_Mo_enters_l21
  simp only [Nat.zero_add, ix616]
  rw [W.1, nI_1]
  have key := loop_inv (body := fun x : HP × Int32 => f_Mo_enters_b21 0 x.1 (nI e) x.2) (fun t x => ∃ m' : HP, x = (m', nI (c - t)) ∧ (∀ a, a ≠ 1 → m'.1 a = m.1 a) ∧ (∀ j, j ≠ 616 → (j < 621 ∨ 781 ≤ j) → m'.1 1 j = m.1 1 j) ∧ m'.1 1 616 = nI (c + 1) ∧ (∀ k, k < c - t → m'.1 1 (621 + k) = nI (F k)) ∧ ∀ k, c - t < k → k ≤ c → m'.1 1 (621 + k) = nI (F (k - 1))) (c - p) (fun m' => EW m' (fun i => if i < p then F i else if i = p then e else if i ≤ c then F (i - 1) else F i) (c + 1) ∧ (∀ a, a ≠ 1 → m'.1 a = m.1 a) ∧ ∀ j, j ≠ 616 → (j < 621 ∨ 781 ≤ j) → m'.1 1 j = m.1 1 j) (fun t x ht hI => ?_) (fun x hI => ?_) (upI m 1 616 (nI (c + 1)), nI c) ⟨_, rfl, fun a ha => upI_at _ _ _ _ ha, fun j h1 _ => by rw [upI_s, if_neg h1], by rw [upI_s, if_pos rfl], fun k hk => by rw [upI_s, if_neg (by omega)]; exact W.2 k (by omega), fun k h1 h2 => by omega⟩
  · exact key
  · obtain ⟨m', rfl, f1, f2, f3, f4, f5⟩ := hI
    have l1 : (621 : Int32) + nI (c - t) = nI (621 + (c - t)) := nI_add 621 _
    have l2 : nI (621 + (c - t)) - 1 = nI (621 + (c - t - 1)) := by rw [show 621 + (c - t) = 621 + (c - t - 1) + 1 by omega]; exact nI_pred _
    have l3 : nI (c - t) + (-1) = nI (c - (t + 1)) := by rw [show c - t = c - (t + 1) + 1 by omega]; exact pk_m1 _
    have i1 : inb (nI (621 + (c - t - 1))) 4100 := inb_nI (by omega) (by decide)
    have i2 : inb (nI (621 + (c - t))) 4100 := inb_nI (by omega) (by decide)
    show ∃ s', f_Mo_enters_b21 0 m' (nI e) (nI (c - t)) = some (Sum.inl s') ∧ _
    unfold f_Mo_enters_b21
    simp only [Nat.zero_add]
    rw [if_neg (nI_nle (show 0 < c - t by omega) (by omega)), l1, l2, if_pos i1, ix_nI (show 621 + (c - t - 1) < 2 ^ 31 by omega), f4 (c - t - 1) (by omega), cgA m' e (F (c - t - 1)) (fun j hj => by rw [f2 j (by omega) (by omega)]; exact hw j hj) he (hF _ (by omega)), if_pos (up (c - t - 1) (by omega) (by omega))]
    simp only [Option.bind_some]
    rw [if_neg one0, if_pos i1, if_pos i2, ix_nI (show 621 + (c - t) < 2 ^ 31 by omega), l3]
    refine ⟨_, rfl, _, rfl, fun a ha => by rw [upI_at _ _ _ _ ha]; exact f1 a ha, fun j h1 h2 => by rw [upI_s, if_neg (by omega)]; exact f2 j h1 h2, by rw [upI_s, if_neg (by omega)]; exact f3, fun k hk => by rw [upI_s, if_neg (by omega)]; exact f4 k (by omega), fun k h1 h2 => ?_⟩
    rw [upI_s]
    by_cases z : k = c - t
    · rw [if_pos (by omega), z]
    · rw [if_neg (by omega)]; exact f5 k (by omega) h2
  · obtain ⟨m', rfl, f1, f2, f3, f4, f5⟩ := hI
    have cp : c - (c - p) = p := by omega
    rw [cp] at f4 f5
    rw [show nI (c - (c - p)) = nI p by rw [cp]]
    have l1 : (621 : Int32) + nI p = nI (621 + p) := nI_add 621 _
    have i2 : inb (nI (621 + p)) 4100 := inb_nI (by omega) (by decide)
    have post : EW (upI m' 1 (621 + p) (nI e)) (fun i => if i < p then F i else if i = p then e else if i ≤ c then F (i - 1) else F i) (c + 1) ∧ (∀ a, a ≠ 1 → (upI m' 1 (621 + p) (nI e)).1 a = m.1 a) ∧ ∀ j, j ≠ 616 → (j < 621 ∨ 781 ≤ j) → (upI m' 1 (621 + p) (nI e)).1 1 j = m.1 1 j := by
      refine ⟨⟨by rw [upI_s, if_neg (by omega)]; exact f3, fun k hk => ?_⟩, fun a ha => by rw [upI_at _ _ _ _ ha]; exact f1 a ha, fun j h1 h2 => by rw [upI_s, if_neg (by omega)]; exact f2 j h1 h2⟩
      show (upI m' 1 (621 + p) (nI e)).1 1 (621 + k) = nI (if k < p then F k else if k = p then e else if k ≤ c then F (k - 1) else F k)
      rw [upI_s]
      by_cases z : k = p
      · rw [if_pos (by omega), if_neg (by omega), if_pos z]
      · rw [if_neg (by omega)]
        by_cases y : k < p
        · rw [if_pos y]; exact f4 k y
        · rw [if_neg y, if_neg z, if_pos (by omega)]; exact f5 k (by omega) (by omega)
    show ∃ t, f_Mo_enters_b21 0 m' (nI e) (nI p) = some (Sum.inr t) ∧ _
    unfold f_Mo_enters_b21
    simp only [Nat.zero_add]
    rw [l1]
    by_cases z : p = 0
    · rw [if_pos (show nI p ≤ 0 by rw [z]; decide), if_pos i2, ix_nI (show 621 + p < 2 ^ 31 by omega)]
      exact ⟨_, rfl, post⟩
    · have l2 : nI (621 + p) - 1 = nI (621 + (p - 1)) := by rw [show 621 + p = 621 + (p - 1) + 1 by omega]; exact nI_pred _
      rw [if_neg (nI_nle (show 0 < p by omega) (by omega)), l2, if_pos (inb_nI (show 621 + (p - 1) < 4100 by omega) (by decide)), ix_nI (show 621 + (p - 1) < 2 ^ 31 by omega), f4 (p - 1) (by omega), cgA m' e (F (p - 1)) (fun j hj => by rw [f2 j (by omega) (by omega)]; exact hw j hj) he (hF _ (by omega)), if_neg (dn (by omega))]
      simp only [Option.bind_some, if_true]
      rw [if_pos i2, ix_nI (show 621 + p < 2 ^ 31 by omega)]
      exact ⟨_, rfl, post⟩
