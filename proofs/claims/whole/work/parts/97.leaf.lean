/-! a fresh net, wherever it lies -/
section LZC
variable {h0 h : HP} {i c : Nat}
set_option maxHeartbeats 400000 in
theorem X_lz10c (hi : i < 6) (f0 : ∀ a, a ≠ (c + 1) → h.1 a = h0.1 a) (f1 : ∀ j, j < 6 * i → h.1 (c + 1) j = nI (lz j)) : ∃ h', f_We_loosen_l10 c h (nI i) (h, 0) = some (Sum.inl (h', nI (i + 1))) ∧ (∀ a, a ≠ (c + 1) → h'.1 a = h0.1 a) ∧ ∀ j, j < 6 * (i + 1) → h'.1 (c + 1) j = nI (lz j) := by
  unfold f_We_loosen_l10
  have key := loop_inv (body := fun x : HP × Int32 => f_We_loosen_b10 c x.1 (nI i) x.2) (fun k x => ∃ h' : HP, x = (h', nI k) ∧ (∀ a, a ≠ (c + 1) → h'.1 a = h0.1 a) ∧ ∀ j, j < 6 * i + k → h'.1 (c + 1) j = nI (lz j)) 6 (fun y => ∃ h' : HP, y = Sum.inl (h', nI (i + 1)) ∧ (∀ a, a ≠ (c + 1) → h'.1 a = h0.1 a) ∧ ∀ j, j < 6 * (i + 1) → h'.1 (c + 1) j = nI (lz j)) (fun k x hk hI => ?_) (fun x hI => ?_) (h, 0) ⟨h, rfl, f0, fun j hj => f1 j (by omega)⟩
  · obtain ⟨y, e, h', rfl, a, b⟩ := key
    exact ⟨h', e, a, b⟩
  · obtain ⟨h', rfl, g0, g1⟩ := hI
    have l : nI i * 6 + nI k = nI (6 * i + k) := by rw [show nI i * 6 = nI (i * 6) from pk_mul i 6, nI_add, Nat.mul_comm]
    have fin : ∀ v : Int32, v = nI (lz (6 * i + k)) → ((∀ a, a ≠ (c + 1) → (upI h' (c + 1) (6 * i + k) v).1 a = h0.1 a) ∧ ∀ j, j < 6 * i + (k + 1) → (upI h' (c + 1) (6 * i + k) v).1 (c + 1) j = nI (lz j)) := fun v hv => by
      refine ⟨fun a ha => by rw [upI_at _ _ _ _ ha]; exact g0 a ha, fun j hj => ?_⟩
      rw [upI_s]
      by_cases z : j = 6 * i + k
      · rw [if_pos z, z]; exact hv
      · rw [if_neg z]; exact g1 j (by omega)
    show ∃ s', f_We_loosen_b10 c h' (nI i) (nI k) = some (Sum.inl s') ∧ _
    unfold f_We_loosen_b10
    rw [if_neg (show ¬ (6 : Int32) ≤ nI k from nI_ge (b := 6) hk (by decide)), l, if_pos (inb_nI (show 6 * i + k < 36 by omega) (by decide)), ix_nI (by omega), nI_1]
    by_cases z : i = k
    · rw [if_pos (by rw [z])]
      exact ⟨_, rfl, _, rfl, fin 64 (by unfold lz; rw [if_pos (by omega)]; rfl)⟩
    · rw [if_neg (fun e => z ((nI_eq (by omega) (by omega)).mp e)), if_pos (inb_nI (show 6 * i + k < 36 by omega) (by decide))]
      exact ⟨_, rfl, _, rfl, fin 8191 (by unfold lz; rw [if_neg (by omega)]; rfl)⟩
  · obtain ⟨h', rfl, g0, g1⟩ := hI
    show ∃ t, f_We_loosen_b10 c h' (nI i) (nI 6) = some (Sum.inr t) ∧ _
    unfold f_We_loosen_b10
    rw [if_pos (show (6 : Int32) ≤ nI 6 from nle 6), nI_1]
    exact ⟨_, rfl, h', rfl, g0, fun j hj => g1 j (by omega)⟩
set_option maxHeartbeats 400000 in
theorem X_loosenc (h : HP) (c : Nat) : ∃ h' : HP, f_We_loosen c h = some h' ∧ (∀ j, j < 36 → h'.1 (c + 1) j = nI (lz j)) ∧ h'.1 c 2 = 0 ∧ ∀ a, a ≠ c → a ≠ (c + 1) → h'.1 a = h.1 a := by
  unfold f_We_loosen f_We_loosen_l2
  have key := loop_inv (body := fun x : HP × Int32 => f_We_loosen_b2 c x.1 x.2) (fun i x => ∃ h' : HP, x = (h', nI i) ∧ (∀ a, a ≠ (c + 1) → h'.1 a = h.1 a) ∧ ∀ j, j < 6 * i → h'.1 (c + 1) j = nI (lz j)) 6 (fun h' => (∀ j, j < 36 → h'.1 (c + 1) j = nI (lz j)) ∧ h'.1 c 2 = 0 ∧ ∀ a, a ≠ c → a ≠ (c + 1) → h'.1 a = h.1 a) (fun i x hi hI => ?_) (fun x hI => ?_) (h, 0) ⟨h, rfl, fun _ _ => rfl, fun j hj => by omega⟩
  · exact key
  · obtain ⟨h', rfl, g0, g1⟩ := hI
    obtain ⟨h2, e2, a2, b2⟩ := X_lz10c (c := c) hi g0 g1
    show ∃ s', f_We_loosen_b2 c h' (nI i) = some (Sum.inl s') ∧ _
    unfold f_We_loosen_b2
    rw [if_neg (show ¬ (6 : Int32) ≤ nI i from nI_ge (b := 6) hi (by decide)), e2]
    exact ⟨_, rfl, h2, rfl, a2, b2⟩
  · obtain ⟨h', rfl, g0, g1⟩ := hI
    show ∃ t, f_We_loosen_b2 c h' (nI 6) = some (Sum.inr t) ∧ _
    unfold f_We_loosen_b2
    rw [if_pos (show (6 : Int32) ≤ nI 6 from nle 6)]
    exact ⟨_, rfl, fun j hj => by rw [upI_at _ _ _ _ (by omega)]; exact g1 j (by omega), by rw [upI_s, if_pos rfl], fun a a1 a2 => by rw [upI_at _ _ _ _ a1]; exact g0 a a2⟩
end LZC

set_option maxHeartbeats 400000 in
theorem lkO_0 : Cond.methodLink (nmC 0) 3 Lib.objectInit ∈ GW := gwI 278 (by decide +kernel)
set_option maxHeartbeats 400000 in
theorem lkO_1 : Cond.methodLink (nmC 1) 3 Lib.objectInit ∈ GW := gwI 166 (by decide +kernel)
set_option maxHeartbeats 400000 in
theorem lkO_2 : Cond.methodLink (nmC 2) 3 Lib.objectInit ∈ GW := gwI 312 (by decide +kernel)
set_option maxHeartbeats 400000 in
theorem lkO_3 : Cond.methodLink (nmC 3) 3 Lib.objectInit ∈ GW := gwI 295 (by decide +kernel)
set_option maxHeartbeats 400000 in
theorem lkO_4 : Cond.methodLink (nmC 4) 3 Lib.objectInit ∈ GW := gwI 111 (by decide +kernel)
set_option maxHeartbeats 400000 in
theorem lkO_5 : Cond.methodLink (nmC 5) 3 Lib.objectInit ∈ GW := gwI 105 (by decide +kernel)
set_option maxHeartbeats 400000 in
theorem lkO_6 : Cond.methodLink (nmC 6) 3 Lib.objectInit ∈ GW := gwI 147 (by decide +kernel)
set_option maxHeartbeats 400000 in
theorem lkO_7 : Cond.methodLink (nmC 7) 3 Lib.objectInit ∈ GW := gwI 223 (by decide +kernel)
set_option maxHeartbeats 400000 in
theorem lkO_8 : Cond.methodLink (nmC 8) 3 Lib.objectInit ∈ GW := gwI 97 (by decide +kernel)
set_option maxHeartbeats 400000 in
theorem lkO_9 : Cond.methodLink (nmC 9) 3 Lib.objectInit ∈ GW := gwI 920 (by decide +kernel)
def shOf (ks : List (Nat × Nat)) (v : Value) : Shp := (ks.length, fun c => (ks.getD c (0, 0)).1, fun c => (ks.getD c (0, 0)).2, v)
def shCo : Shp := shOf [(0, 0), (11, 160)] .null
def shCu : Shp := shOf [(1, 0), (10, 160), (10, 80), (10, 2), (10, 8), (10, 1600)] .null
def shMa : Shp := shOf [(2, 0), (10, 40), (10, 40), (10, 40)] .null
def shPa : Shp := shOf [(3, 0), (10, 800), (10, 160)] .null
def shRo : Shp := shOf [(4, 0), (10, 40), (10, 40), (10, 40), (10, 40), (10, 40)] .null
def shTr : Shp := shOf [(6, 0), (10, 3), (10, 3)] .null
def shWe : Shp := shOf [(7, 0), (10, 36), (10, 36)] .null
def shSt : Shp := shOf [(5, 0), (4, 0), (10, 40), (10, 40), (10, 40), (10, 40), (10, 40), (4, 0), (10, 40), (10, 40), (10, 40), (10, 40), (10, 40), (4, 0), (10, 40), (10, 40), (10, 40), (10, 40), (10, 40), (6, 0), (10, 3), (10, 3), (1, 0), (10, 160), (10, 80), (10, 2), (10, 8), (10, 1600), (7, 0), (10, 36), (10, 36)] .null
def shTJ (v : Value) : Shp := shOf [(8, 0), (5, 0), (4, 0), (10, 40), (10, 40), (10, 40), (10, 40), (10, 40), (4, 0), (10, 40), (10, 40), (10, 40), (10, 40), (10, 40), (4, 0), (10, 40), (10, 40), (10, 40), (10, 40), (10, 40), (6, 0), (10, 3), (10, 3), (1, 0), (10, 160), (10, 80), (10, 2), (10, 8), (10, 1600), (7, 0), (10, 36), (10, 36), (0, 0), (11, 160), (3, 0), (10, 800), (10, 160), (2, 0), (10, 40), (10, 40), (10, 40), (10, 40)] v
def shMo : Shp := shOf [(9, 0), (10, 4100), (10, 4100), (10, 200), (10, 200), (10, 200), (10, 40), (10, 200), (10, 40), (10, 169), (10, 36)] .null
def hp00 : HP := (fun _ _ => 0, fun _ _ => 0)
def Pr0 (hp : HP) : Prop := hp = hp00
set_option maxHeartbeats 4000000 in
set_option maxRecDepth 10000 in
set_option maxHeartbeats 400000 in
theorem mk_Co : Mk 1 q_Co_init [.null, .int 0] shCo Pr0 1 160 := by
  refine Mk.of (by decide +kernel) rfl (Nat.le_of_ble_eq_true rfl) rfl ?_
  intro p l e s m args below meth c D cy ct h0 C ls hl hh
  refine K_begin C hl lkO_0 (by decide +kernel) ⟨Nat.le_of_ble_eq_true rfl, Nat.le_of_ble_eq_true rfl⟩ ?_
  refine K_arrJ C hl hh 0 160 3 9 13 160 (by decide +kernel) rfl (by decide +kernel) (Nat.le_of_ble_eq_true rfl) ⟨by decide, by decide, by decide⟩ ⟨Nat.le_of_ble_eq_true rfl, Nat.le_of_ble_eq_true rfl⟩ (fun a1 H locs hh => ?_)
  have hP : va_P D vwCl (wl cy shCo (fun c => ([h0, a1] : List Nat).getD c 0) hp00) H := hh.1
  have hD : va_D (A1 h0 s.heap.size) (wl cy shCo (fun c => ([h0, a1] : List Nat).getD c 0) hp00) := hh.2.1
  exact K_ret C rfl hP hD hh.2.2 rfl rfl (by decide) (by decide +kernel) (Nat.le_of_ble_eq_true rfl) (Nat.le_of_ble_eq_true rfl)
set_option maxHeartbeats 4000000 in
set_option maxRecDepth 10000 in
set_option maxHeartbeats 400000 in
theorem mk_Cu : Mk 1 q_Cu_init [.null, .int 0, .int 0, .int 0, .null, .null, .null, .null, .int 0, .int 0, .int 0, .int 0, .int 0] shCu Pr0 5 1850 := by
  refine Mk.of (by decide +kernel) rfl (Nat.le_of_ble_eq_true rfl) rfl ?_
  intro p l e s m args below meth c D cy ct h0 C ls hl hh
  refine K_begin C hl lkO_1 (by decide +kernel) ⟨Nat.le_of_ble_eq_true rfl, Nat.le_of_ble_eq_true rfl⟩ ?_
  refine K_arrI C hl hh 0 160 3 9 13 160 (by decide +kernel) rfl (by decide +kernel) (Nat.le_of_ble_eq_true rfl) ⟨by decide, by decide, by decide⟩ ⟨Nat.le_of_ble_eq_true rfl, Nat.le_of_ble_eq_true rfl⟩ (fun a1 H locs hh => ?_)
  refine K_arrI C hl hh 4 80 2 15 21 80 (by decide +kernel) rfl (by decide +kernel) (Nat.le_of_ble_eq_true rfl) ⟨by decide, by decide, by decide⟩ ⟨Nat.le_of_ble_eq_true rfl, Nat.le_of_ble_eq_true rfl⟩ (fun a2 H locs hh => ?_)
  refine K_arrI C hl hh 5 2 1 18 28 2 (by decide +kernel) rfl (by decide +kernel) (Nat.le_of_ble_eq_true rfl) ⟨by decide, by decide, by decide⟩ ⟨Nat.le_of_ble_eq_true rfl, Nat.le_of_ble_eq_true rfl⟩ (fun a3 H locs hh => ?_)
  refine K_arrI C hl hh 6 8 2 21 36 8 (by decide +kernel) rfl (by decide +kernel) (Nat.le_of_ble_eq_true rfl) ⟨by decide, by decide, by decide⟩ ⟨Nat.le_of_ble_eq_true rfl, Nat.le_of_ble_eq_true rfl⟩ (fun a4 H locs hh => ?_)
  refine K_arrI C hl hh 7 1600 3 24 45 1600 (by decide +kernel) rfl (by decide +kernel) (Nat.le_of_ble_eq_true rfl) ⟨by decide, by decide, by decide⟩ ⟨Nat.le_of_ble_eq_true rfl, Nat.le_of_ble_eq_true rfl⟩ (fun a5 H locs hh => ?_)
  have hP : va_P D vwCl (wl cy shCu (fun c => ([h0, a1, a2, a3, a4, a5] : List Nat).getD c 0) hp00) H := hh.1
  have hD : va_D (A1 h0 s.heap.size) (wl cy shCu (fun c => ([h0, a1, a2, a3, a4, a5] : List Nat).getD c 0) hp00) := hh.2.1
  exact K_ret C rfl hP hD hh.2.2 rfl rfl (by decide) (by decide +kernel) (Nat.le_of_ble_eq_true rfl) (Nat.le_of_ble_eq_true rfl)
set_option maxHeartbeats 4000000 in
set_option maxRecDepth 10000 in
set_option maxHeartbeats 400000 in
theorem mk_Ma : Mk 1 q_Ma_init [.null, .null, .null, .int 0, .int 0, .int 0] shMa Pr0 3 120 := by
  refine Mk.of (by decide +kernel) rfl (Nat.le_of_ble_eq_true rfl) rfl ?_
  intro p l e s m args below meth c D cy ct h0 C ls hl hh
  refine K_begin C hl lkO_2 (by decide +kernel) ⟨Nat.le_of_ble_eq_true rfl, Nat.le_of_ble_eq_true rfl⟩ ?_
  refine K_arrI C hl hh 0 40 2 9 12 40 (by decide +kernel) rfl (by decide +kernel) (Nat.le_of_ble_eq_true rfl) ⟨by decide, by decide, by decide⟩ ⟨Nat.le_of_ble_eq_true rfl, Nat.le_of_ble_eq_true rfl⟩ (fun a1 H locs hh => ?_)
  refine K_arrI C hl hh 1 40 2 15 20 40 (by decide +kernel) rfl (by decide +kernel) (Nat.le_of_ble_eq_true rfl) ⟨by decide, by decide, by decide⟩ ⟨Nat.le_of_ble_eq_true rfl, Nat.le_of_ble_eq_true rfl⟩ (fun a2 H locs hh => ?_)
  refine K_arrI C hl hh 2 40 2 18 28 40 (by decide +kernel) rfl (by decide +kernel) (Nat.le_of_ble_eq_true rfl) ⟨by decide, by decide, by decide⟩ ⟨Nat.le_of_ble_eq_true rfl, Nat.le_of_ble_eq_true rfl⟩ (fun a3 H locs hh => ?_)
  have hP : va_P D vwCl (wl cy shMa (fun c => ([h0, a1, a2, a3] : List Nat).getD c 0) hp00) H := hh.1
  have hD : va_D (A1 h0 s.heap.size) (wl cy shMa (fun c => ([h0, a1, a2, a3] : List Nat).getD c 0) hp00) := hh.2.1
  exact K_ret C rfl hP hD hh.2.2 rfl rfl (by decide) (by decide +kernel) (Nat.le_of_ble_eq_true rfl) (Nat.le_of_ble_eq_true rfl)
set_option maxHeartbeats 4000000 in
set_option maxRecDepth 10000 in
set_option maxHeartbeats 400000 in
theorem mk_Pa : Mk 1 q_Pa_init [.null, .null, .int 0] shPa Pr0 2 960 := by
  refine Mk.of (by decide +kernel) rfl (Nat.le_of_ble_eq_true rfl) rfl ?_
  intro p l e s m args below meth c D cy ct h0 C ls hl hh
  refine K_begin C hl lkO_3 (by decide +kernel) ⟨Nat.le_of_ble_eq_true rfl, Nat.le_of_ble_eq_true rfl⟩ ?_
  refine K_arrI C hl hh 0 800 3 11 13 800 (by decide +kernel) rfl (by decide +kernel) (Nat.le_of_ble_eq_true rfl) ⟨by decide, by decide, by decide⟩ ⟨Nat.le_of_ble_eq_true rfl, Nat.le_of_ble_eq_true rfl⟩ (fun a1 H locs hh => ?_)
  refine K_arrI C hl hh 1 160 3 15 22 160 (by decide +kernel) rfl (by decide +kernel) (Nat.le_of_ble_eq_true rfl) ⟨by decide, by decide, by decide⟩ ⟨Nat.le_of_ble_eq_true rfl, Nat.le_of_ble_eq_true rfl⟩ (fun a2 H locs hh => ?_)
  have hP : va_P D vwCl (wl cy shPa (fun c => ([h0, a1, a2] : List Nat).getD c 0) hp00) H := hh.1
  have hD : va_D (A1 h0 s.heap.size) (wl cy shPa (fun c => ([h0, a1, a2] : List Nat).getD c 0) hp00) := hh.2.1
  exact K_ret C rfl hP hD hh.2.2 rfl rfl (by decide) (by decide +kernel) (Nat.le_of_ble_eq_true rfl) (Nat.le_of_ble_eq_true rfl)
set_option maxHeartbeats 4000000 in
set_option maxRecDepth 10000 in
set_option maxHeartbeats 400000 in
theorem mk_Ro : Mk 1 q_Ro_init [.null, .null, .null, .null, .null, .int 0] shRo Pr0 5 200 := by
  refine Mk.of (by decide +kernel) rfl (Nat.le_of_ble_eq_true rfl) rfl ?_
  intro p l e s m args below meth c D cy ct h0 C ls hl hh
  refine K_begin C hl lkO_4 (by decide +kernel) ⟨Nat.le_of_ble_eq_true rfl, Nat.le_of_ble_eq_true rfl⟩ ?_
  refine K_arrI C hl hh 0 40 2 9 12 40 (by decide +kernel) rfl (by decide +kernel) (Nat.le_of_ble_eq_true rfl) ⟨by decide, by decide, by decide⟩ ⟨Nat.le_of_ble_eq_true rfl, Nat.le_of_ble_eq_true rfl⟩ (fun a1 H locs hh => ?_)
  refine K_arrI C hl hh 1 40 2 15 20 40 (by decide +kernel) rfl (by decide +kernel) (Nat.le_of_ble_eq_true rfl) ⟨by decide, by decide, by decide⟩ ⟨Nat.le_of_ble_eq_true rfl, Nat.le_of_ble_eq_true rfl⟩ (fun a2 H locs hh => ?_)
  refine K_arrI C hl hh 2 40 2 18 28 40 (by decide +kernel) rfl (by decide +kernel) (Nat.le_of_ble_eq_true rfl) ⟨by decide, by decide, by decide⟩ ⟨Nat.le_of_ble_eq_true rfl, Nat.le_of_ble_eq_true rfl⟩ (fun a3 H locs hh => ?_)
  refine K_arrI C hl hh 3 40 2 21 36 40 (by decide +kernel) rfl (by decide +kernel) (Nat.le_of_ble_eq_true rfl) ⟨by decide, by decide, by decide⟩ ⟨Nat.le_of_ble_eq_true rfl, Nat.le_of_ble_eq_true rfl⟩ (fun a4 H locs hh => ?_)
  refine K_arrI C hl hh 4 40 2 24 44 40 (by decide +kernel) rfl (by decide +kernel) (Nat.le_of_ble_eq_true rfl) ⟨by decide, by decide, by decide⟩ ⟨Nat.le_of_ble_eq_true rfl, Nat.le_of_ble_eq_true rfl⟩ (fun a5 H locs hh => ?_)
  have hP : va_P D vwCl (wl cy shRo (fun c => ([h0, a1, a2, a3, a4, a5] : List Nat).getD c 0) hp00) H := hh.1
  have hD : va_D (A1 h0 s.heap.size) (wl cy shRo (fun c => ([h0, a1, a2, a3, a4, a5] : List Nat).getD c 0) hp00) := hh.2.1
  exact K_ret C rfl hP hD hh.2.2 rfl rfl (by decide) (by decide +kernel) (Nat.le_of_ble_eq_true rfl) (Nat.le_of_ble_eq_true rfl)
set_option maxHeartbeats 4000000 in
set_option maxRecDepth 10000 in
set_option maxHeartbeats 400000 in
theorem mk_Tr : Mk 1 q_Tr_init [.null, .null, .int 0] shTr Pr0 2 6 := by
  refine Mk.of (by decide +kernel) rfl (Nat.le_of_ble_eq_true rfl) rfl ?_
  intro p l e s m args below meth c D cy ct h0 C ls hl hh
  refine K_begin C hl lkO_6 (by decide +kernel) ⟨Nat.le_of_ble_eq_true rfl, Nat.le_of_ble_eq_true rfl⟩ ?_
  refine K_arrI C hl hh 0 3 1 9 11 3 (by decide +kernel) rfl (by decide +kernel) (Nat.le_of_ble_eq_true rfl) ⟨by decide, by decide, by decide⟩ ⟨Nat.le_of_ble_eq_true rfl, Nat.le_of_ble_eq_true rfl⟩ (fun a1 H locs hh => ?_)
  refine K_arrI C hl hh 1 3 1 15 18 3 (by decide +kernel) rfl (by decide +kernel) (Nat.le_of_ble_eq_true rfl) ⟨by decide, by decide, by decide⟩ ⟨Nat.le_of_ble_eq_true rfl, Nat.le_of_ble_eq_true rfl⟩ (fun a2 H locs hh => ?_)
  have hP : va_P D vwCl (wl cy shTr (fun c => ([h0, a1, a2] : List Nat).getD c 0) hp00) H := hh.1
  have hD : va_D (A1 h0 s.heap.size) (wl cy shTr (fun c => ([h0, a1, a2] : List Nat).getD c 0) hp00) := hh.2.1
  exact K_ret C rfl hP hD hh.2.2 rfl rfl (by decide) (by decide +kernel) (Nat.le_of_ble_eq_true rfl) (Nat.le_of_ble_eq_true rfl)
