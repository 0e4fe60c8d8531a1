/-! the larger constructors -/
set_option maxHeartbeats 400000 in
theorem lkI_Ro : LkI 5 9 11 q_Ro_init := ⟨⟨by decide, gwI 106 (by decide +kernel), gwI 107 (by decide +kernel), gwI 82 (by decide +kernel), gwI 109 (by decide +kernel), q_Ro_init_c, Or.inl (List.mem_of_getElem? (i := 1) rfl)⟩, rfl, rfl, rfl, by decide +kernel, by decide +kernel, by decide +kernel⟩
set_option maxHeartbeats 400000 in
theorem lkI_Tr : LkI 5 24 26 q_Tr_init := ⟨⟨by decide, gwI 142 (by decide +kernel), gwI 143 (by decide +kernel), gwI 83 (by decide +kernel), gwI 145 (by decide +kernel), q_Tr_init_c, Or.inl (List.mem_of_getElem? (i := 2) rfl)⟩, rfl, rfl, rfl, by decide +kernel, by decide +kernel, by decide +kernel⟩
set_option maxHeartbeats 400000 in
theorem lkI_Cu : LkI 5 31 33 q_Cu_init := ⟨⟨by decide, gwI 161 (by decide +kernel), gwI 162 (by decide +kernel), gwI 84 (by decide +kernel), gwI 164 (by decide +kernel), q_Cu_init_c, Or.inl (List.mem_of_getElem? (i := 3) rfl)⟩, rfl, rfl, rfl, by decide +kernel, by decide +kernel, by decide +kernel⟩
set_option maxHeartbeats 400000 in
theorem lkI_We : LkI 5 38 40 q_We_init := ⟨⟨by decide, gwI 218 (by decide +kernel), gwI 219 (by decide +kernel), gwI 85 (by decide +kernel), gwI 221 (by decide +kernel), q_We_init_c, Or.inr (gwI 220 (by decide +kernel))⟩, rfl, rfl, rfl, by decide +kernel, by decide +kernel, by decide +kernel⟩
set_option maxHeartbeats 400000 in
theorem lkI_St : LkI 8 9 11 q_St_init := ⟨⟨by decide, gwI 100 (by decide +kernel), gwI 101 (by decide +kernel), gwI 81 (by decide +kernel), gwI 103 (by decide +kernel), q_St_init_c, Or.inl (List.mem_of_getElem? (i := 0) rfl)⟩, rfl, rfl, rfl, by decide +kernel, by decide +kernel, by decide +kernel⟩
set_option maxHeartbeats 400000 in
theorem lkI_Co : LkI 8 16 18 q_Co_init := ⟨⟨by decide, gwI 273 (by decide +kernel), gwI 274 (by decide +kernel), gwI 86 (by decide +kernel), gwI 276 (by decide +kernel), q_Co_init_c, Or.inl (List.mem_of_getElem? (i := 4) rfl)⟩, rfl, rfl, rfl, by decide +kernel, by decide +kernel, by decide +kernel⟩
set_option maxHeartbeats 400000 in
theorem lkI_Pa : LkI 8 23 25 q_Pa_init := ⟨⟨by decide, gwI 290 (by decide +kernel), gwI 291 (by decide +kernel), gwI 87 (by decide +kernel), gwI 293 (by decide +kernel), q_Pa_init_c, Or.inl (List.mem_of_getElem? (i := 5) rfl)⟩, rfl, rfl, rfl, by decide +kernel, by decide +kernel, by decide +kernel⟩
set_option maxHeartbeats 400000 in
theorem lkI_Ma : LkI 8 30 32 q_Ma_init := ⟨⟨by decide, gwI 307 (by decide +kernel), gwI 308 (by decide +kernel), gwI 88 (by decide +kernel), gwI 310 (by decide +kernel), q_Ma_init_c, Or.inl (List.mem_of_getElem? (i := 6) rfl)⟩, rfl, rfl, rfl, by decide +kernel, by decide +kernel, by decide +kernel⟩
set_option maxHeartbeats 400000 in
theorem df_Ro : ∀ j, j < nsl q_Ro_init.2.2.2.2 → defaultValue (fY q_Ro_init.2.2.2.2 j) = vp_V [.null, .null, .null, .null, .null, .int 0] j := fun j hj => by
  have hj : j < 6 := hj
  rcases (show j = 0 ∨ j = 1 ∨ j = 2 ∨ j = 3 ∨ j = 4 ∨ j = 5 by omega) with rfl | rfl | rfl | rfl | rfl | rfl <;> rfl
set_option maxHeartbeats 400000 in
theorem df_Tr : ∀ j, j < nsl q_Tr_init.2.2.2.2 → defaultValue (fY q_Tr_init.2.2.2.2 j) = vp_V [.null, .null, .int 0] j := fun j hj => by
  have hj : j < 3 := hj
  rcases (show j = 0 ∨ j = 1 ∨ j = 2 by omega) with rfl | rfl | rfl <;> rfl
set_option maxHeartbeats 400000 in
theorem df_Cu : ∀ j, j < nsl q_Cu_init.2.2.2.2 → defaultValue (fY q_Cu_init.2.2.2.2 j) = vp_V [.null, .int 0, .int 0, .int 0, .null, .null, .null, .null, .int 0, .int 0, .int 0, .int 0, .int 0] j := fun j hj => by
  have hj : j < 13 := hj
  rcases (show j = 0 ∨ j = 1 ∨ j = 2 ∨ j = 3 ∨ j = 4 ∨ j = 5 ∨ j = 6 ∨ j = 7 ∨ j = 8 ∨ j = 9 ∨ j = 10 ∨ j = 11 ∨ j = 12 by omega) with rfl | rfl | rfl | rfl | rfl | rfl | rfl | rfl | rfl | rfl | rfl | rfl | rfl <;> rfl
set_option maxHeartbeats 400000 in
theorem df_We : ∀ j, j < nsl q_We_init.2.2.2.2 → defaultValue (fY q_We_init.2.2.2.2 j) = vp_V [.null, .null, .int 0] j := fun j hj => by
  have hj : j < 3 := hj
  rcases (show j = 0 ∨ j = 1 ∨ j = 2 by omega) with rfl | rfl | rfl <;> rfl
set_option maxHeartbeats 400000 in
theorem df_Co : ∀ j, j < nsl q_Co_init.2.2.2.2 → defaultValue (fY q_Co_init.2.2.2.2 j) = vp_V [.null, .int 0] j := fun j hj => by
  have hj : j < 2 := hj
  rcases (show j = 0 ∨ j = 1 by omega) with rfl | rfl <;> rfl
set_option maxHeartbeats 400000 in
theorem df_Pa : ∀ j, j < nsl q_Pa_init.2.2.2.2 → defaultValue (fY q_Pa_init.2.2.2.2 j) = vp_V [.null, .null, .int 0] j := fun j hj => by
  have hj : j < 3 := hj
  rcases (show j = 0 ∨ j = 1 ∨ j = 2 by omega) with rfl | rfl | rfl <;> rfl
set_option maxHeartbeats 400000 in
theorem df_Ma : ∀ j, j < nsl q_Ma_init.2.2.2.2 → defaultValue (fY q_Ma_init.2.2.2.2 j) = vp_V [.null, .null, .null, .int 0, .int 0, .int 0] j := fun j hj => by
  have hj : j < 6 := hj
  rcases (show j = 0 ∨ j = 1 ∨ j = 2 ∨ j = 3 ∨ j = 4 ∨ j = 5 by omega) with rfl | rfl | rfl | rfl | rfl | rfl <;> rfl
set_option maxHeartbeats 400000 in
theorem df_St : ∀ j, j < nsl q_St_init.2.2.2.2 → defaultValue (fY q_St_init.2.2.2.2 j) = vp_V [.null, .null, .null, .null, .null, .null, .int 0, .int 0] j := fun j hj => by
  have hj : j < 8 := hj
  rcases (show j = 0 ∨ j = 1 ∨ j = 2 ∨ j = 3 ∨ j = 4 ∨ j = 5 ∨ j = 6 ∨ j = 7 by omega) with rfl | rfl | rfl | rfl | rfl | rfl | rfl | rfl <;> rfl
/-- a fresh State -/
def PrS (hp : HP) : Prop := hp.1 0 6 = 1 ∧ hp.1 0 7 = 2044 ∧ (∀ c, 1 ≤ c → c < 28 → hp.1 c = fun _ => 0) ∧ hp.1 28 2 = 0 ∧ ∀ j, j < 36 → hp.1 29 j = nI (lz j)
def hpSt (hpw : HP) : HP := (fun c k => if c = 0 then (if k = 6 then 1 else if k = 7 then 2044 else 0) else if c < 28 then 0 else hpw.1 (c - 28) k, fun _ _ => 0)
set_option maxHeartbeats 400000 in
theorem hpSt_ok {hpw : HP} (h : PrW hpw) : PrS (hpSt hpw) := ⟨rfl, rfl, fun c c1 c2 => by
  funext k
  show (if c = 0 then _ else if c < 28 then (0 : Int32) else _) = 0
  rw [if_neg (by omega), if_pos c2], h.1, fun j hj => h.2 j hj⟩
set_option maxHeartbeats 16000000 in
set_option maxRecDepth 20000 in
set_option maxHeartbeats 400000 in
theorem mk_St : Mk 3 q_St_init [.null, .null, .null, .null, .null, .null, .int 0, .int 0] shSt PrS 30 2565 := by
  refine Mk.of (by decide +kernel) rfl (Nat.le_of_ble_eq_true rfl) rfl ?_
  intro p l e s m args below meth c D cy ct h0 C ls hl hh
  refine K_begin C hl lkO_5 (by decide +kernel) ⟨Nat.le_of_ble_eq_true rfl, Nat.le_of_ble_eq_true rfl⟩ ?_
  refine K_obj C hl hh mk_Ro 0 9 11 12 15 (by decide +kernel) rfl lkI_Ro "TimedJoin$Rows" rfl (by decide +kernel) (Nat.le_of_ble_eq_true rfl) df_Ro (by decide) ⟨⟨Nat.le_of_ble_eq_true rfl, Nat.le_of_ble_eq_true rfl⟩, Nat.le_of_ble_eq_true rfl, Nat.le_of_ble_eq_true rfl⟩ (fun ad1 hp1 H locs pr1 hh => ?_)
  refine K_obj C hl hh mk_Ro 1 9 11 18 26 (by decide +kernel) rfl lkI_Ro "TimedJoin$Rows" rfl (by decide +kernel) (Nat.le_of_ble_eq_true rfl) df_Ro (by decide) ⟨⟨Nat.le_of_ble_eq_true rfl, Nat.le_of_ble_eq_true rfl⟩, Nat.le_of_ble_eq_true rfl, Nat.le_of_ble_eq_true rfl⟩ (fun ad2 hp2 H locs pr2 hh => ?_)
  refine K_obj C hl hh mk_Ro 2 9 11 21 37 (by decide +kernel) rfl lkI_Ro "TimedJoin$Rows" rfl (by decide +kernel) (Nat.le_of_ble_eq_true rfl) df_Ro (by decide) ⟨⟨Nat.le_of_ble_eq_true rfl, Nat.le_of_ble_eq_true rfl⟩, Nat.le_of_ble_eq_true rfl, Nat.le_of_ble_eq_true rfl⟩ (fun ad3 hp3 H locs pr3 hh => ?_)
  refine K_obj C hl hh mk_Tr 3 24 26 27 48 (by decide +kernel) rfl lkI_Tr "TimedJoin$Trouble" rfl (by decide +kernel) (Nat.le_of_ble_eq_true rfl) df_Tr (by decide) ⟨⟨Nat.le_of_ble_eq_true rfl, Nat.le_of_ble_eq_true rfl⟩, Nat.le_of_ble_eq_true rfl, Nat.le_of_ble_eq_true rfl⟩ (fun ad4 hp4 H locs pr4 hh => ?_)
  refine K_obj C hl hh mk_Cu 4 31 33 34 59 (by decide +kernel) rfl lkI_Cu "TimedJoin$Course" rfl (by decide +kernel) (Nat.le_of_ble_eq_true rfl) df_Cu (by decide) ⟨⟨Nat.le_of_ble_eq_true rfl, Nat.le_of_ble_eq_true rfl⟩, Nat.le_of_ble_eq_true rfl, Nat.le_of_ble_eq_true rfl⟩ (fun ad5 hp5 H locs pr5 hh => ?_)
  refine K_obj C hl hh mk_We 5 38 40 41 70 (by decide +kernel) rfl lkI_We "TimedJoin$Web" rfl (by decide +kernel) (Nat.le_of_ble_eq_true rfl) df_We (by decide) ⟨⟨Nat.le_of_ble_eq_true rfl, Nat.le_of_ble_eq_true rfl⟩, Nat.le_of_ble_eq_true rfl, Nat.le_of_ble_eq_true rfl⟩ (fun ad6 hp6 H locs pr6 hh => ?_)
  refine lv_aload_n (x := h0) C.1.1 C.1.2.1 (show decode q_St_init.2.1 70 = .ok (.aload_n 0, 1) by decide +kernel) rfl (lv_at hl 0 rfl) ?_
  refine K_push (q := q_St_init) (n := 1) (len := 1) C.1.1 C.1.2.1 (by decide +kernel) ?_
  refine K_put C hh (idx := 45) (k := 6) (ty := .boolean) (by decide +kernel) (by decide) (by decide) (Nat.le_of_ble_eq_true rfl) (show decode q_St_init.2.1 72 = .ok (.putfield 45, 3) by decide +kernel) (fun H locs hh => ?_)
  refine lv_aload_n (x := h0) C.1.1 C.1.2.1 (show decode q_St_init.2.1 75 = .ok (.aload_n 0, 1) by decide +kernel) rfl (lv_at hl 0 rfl) ?_
  refine K_push (q := q_St_init) (n := 2044) (len := 3) C.1.1 C.1.2.1 (by decide +kernel) ?_
  refine K_put C hh (idx := 49) (k := 7) (ty := .int) (by decide +kernel) rfl rfl (Nat.le_of_ble_eq_true rfl) (show decode q_St_init.2.1 79 = .ok (.putfield 49, 3) by decide +kernel) (fun H locs hh => ?_)
  cases pr1; cases pr2; cases pr3; cases pr4; cases pr5
  have hP : va_P D vwCl (wl cy shSt (fun c => ([h0, ad1 0, ad1 1, ad1 2, ad1 3, ad1 4, ad1 5, ad2 0, ad2 1, ad2 2, ad2 3, ad2 4, ad2 5, ad3 0, ad3 1, ad3 2, ad3 3, ad3 4, ad3 5, ad4 0, ad4 1, ad4 2, ad5 0, ad5 1, ad5 2, ad5 3, ad5 4, ad5 5, ad6 0, ad6 1, ad6 2] : List Nat).getD c 0) (hpSt hp6)) H := hh.1
  have hD : va_D (A1 h0 s.heap.size) (wl cy shSt (fun c => ([h0, ad1 0, ad1 1, ad1 2, ad1 3, ad1 4, ad1 5, ad2 0, ad2 1, ad2 2, ad2 3, ad2 4, ad2 5, ad3 0, ad3 1, ad3 2, ad3 3, ad3 4, ad3 5, ad4 0, ad4 1, ad4 2, ad5 0, ad5 1, ad5 2, ad5 3, ad5 4, ad5 5, ad6 0, ad6 1, ad6 2] : List Nat).getD c 0) (hpSt hp6)) := hh.2.1
  exact K_ret (sh := shSt) (Pr := PrS) C rfl hP hD hh.2.2 (hpSt_ok pr6) rfl (by decide) (show decode q_St_init.2.1 82 = .ok (.return_, 1) by decide +kernel) (Nat.le_of_ble_eq_true rfl) (Nat.le_of_ble_eq_true rfl)
