/-! TimedJoin() -/
def PrX (hp : HP) : Prop := ∃ hs, PrS hs ∧ ∀ c, c < 31 → hp.1 (1 + c) = hs.1 c
def hpTJ (hs : HP) : HP := (fun c k => if c = 0 then 0 else if c < 32 then hs.1 (c - 1) k else 0, fun c k => if c = 0 then 0 else if c < 32 then hs.2 (c - 1) k else 0)
set_option maxHeartbeats 400000 in
theorem hpTJ_ok {hs : HP} (h : PrS hs) : PrX (hpTJ hs) := ⟨hs, h, fun c hc => by
  funext k
  show (if 1 + c = 0 then (0 : Int32) else if 1 + c < 32 then hs.1 (1 + c - 1) k else 0) = hs.1 c k
  rw [if_neg (by omega), if_pos (by omega), show 1 + c - 1 = c by omega]⟩
set_option maxHeartbeats 16000000 in
set_option maxRecDepth 20000 in
set_option maxHeartbeats 400000 in
theorem mk_TJ : Mk 4 q_TJ_init [.null, .null, .null, .null, .null, .null] (shTJ .null) PrX 41 3864 := by
  refine Mk.of (by decide +kernel) rfl (Nat.le_of_ble_eq_true rfl) rfl ?_
  intro p l e s m args below meth c D cy ct h0 C ls hl hh
  refine K_begin C hl lkO_8 (by decide +kernel) ⟨Nat.le_of_ble_eq_true rfl, Nat.le_of_ble_eq_true rfl⟩ ?_
  refine K_obj C hl hh mk_St 0 9 11 12 15 (by decide +kernel) rfl lkI_St "TimedJoin$State" rfl (by decide +kernel) (Nat.le_of_ble_eq_true rfl) df_St (by decide) ⟨⟨Nat.le_of_ble_eq_true rfl, Nat.le_of_ble_eq_true rfl⟩, Nat.le_of_ble_eq_true rfl, Nat.le_of_ble_eq_true rfl⟩ (fun ad1 hp1 H locs pr1 hh => ?_)
  refine K_obj C hl hh mk_Co 2 16 18 19 26 (by decide +kernel) rfl lkI_Co "TimedJoin$Codes" rfl (by decide +kernel) (Nat.le_of_ble_eq_true rfl) df_Co (by decide) ⟨⟨Nat.le_of_ble_eq_true rfl, Nat.le_of_ble_eq_true rfl⟩, Nat.le_of_ble_eq_true rfl, Nat.le_of_ble_eq_true rfl⟩ (fun ad2 hp2 H locs pr2 hh => ?_)
  refine K_obj C hl hh mk_Pa 3 23 25 26 37 (by decide +kernel) rfl lkI_Pa "TimedJoin$Parts" rfl (by decide +kernel) (Nat.le_of_ble_eq_true rfl) df_Pa (by decide) ⟨⟨Nat.le_of_ble_eq_true rfl, Nat.le_of_ble_eq_true rfl⟩, Nat.le_of_ble_eq_true rfl, Nat.le_of_ble_eq_true rfl⟩ (fun ad3 hp3 H locs pr3 hh => ?_)
  refine K_obj C hl hh mk_Ma 4 30 32 33 48 (by decide +kernel) rfl lkI_Ma "TimedJoin$Mates" rfl (by decide +kernel) (Nat.le_of_ble_eq_true rfl) df_Ma (by decide) ⟨⟨Nat.le_of_ble_eq_true rfl, Nat.le_of_ble_eq_true rfl⟩, Nat.le_of_ble_eq_true rfl, Nat.le_of_ble_eq_true rfl⟩ (fun ad4 hp4 H locs pr4 hh => ?_)
  refine K_arrI C hl hh 5 40 2 37 56 40 (by decide +kernel) rfl (by decide +kernel) (Nat.le_of_ble_eq_true rfl) ⟨by decide, by decide, by decide⟩ ⟨Nat.le_of_ble_eq_true rfl, Nat.le_of_ble_eq_true rfl⟩ (fun a5 H locs hh => ?_)
  cases pr2; cases pr3; cases pr4
  have hP : va_P D vwCl (wl cy (shTJ .null) (fun c => ([h0, ad1 0, ad1 1, ad1 2, ad1 3, ad1 4, ad1 5, ad1 6, ad1 7, ad1 8, ad1 9, ad1 10, ad1 11, ad1 12, ad1 13, ad1 14, ad1 15, ad1 16, ad1 17, ad1 18, ad1 19, ad1 20, ad1 21, ad1 22, ad1 23, ad1 24, ad1 25, ad1 26, ad1 27, ad1 28, ad1 29, ad1 30, ad2 0, ad2 1, ad3 0, ad3 1, ad3 2, ad4 0, ad4 1, ad4 2, ad4 3, a5] : List Nat).getD c 0) (hpTJ hp1)) H := hh.1
  have hD : va_D (A1 h0 s.heap.size) (wl cy (shTJ .null) (fun c => ([h0, ad1 0, ad1 1, ad1 2, ad1 3, ad1 4, ad1 5, ad1 6, ad1 7, ad1 8, ad1 9, ad1 10, ad1 11, ad1 12, ad1 13, ad1 14, ad1 15, ad1 16, ad1 17, ad1 18, ad1 19, ad1 20, ad1 21, ad1 22, ad1 23, ad1 24, ad1 25, ad1 26, ad1 27, ad1 28, ad1 29, ad1 30, ad2 0, ad2 1, ad3 0, ad3 1, ad3 2, ad4 0, ad4 1, ad4 2, ad4 3, a5] : List Nat).getD c 0) (hpTJ hp1)) := hh.2.1
  exact K_ret (sh := shTJ .null) (Pr := PrX) C rfl hP hD hh.2.2 (hpTJ_ok pr1) rfl (by decide) (show decode q_TJ_init.2.1 56 = .ok (.return_, 1) by decide +kernel) (Nat.le_of_ble_eq_true rfl) (Nat.le_of_ble_eq_true rfl)
