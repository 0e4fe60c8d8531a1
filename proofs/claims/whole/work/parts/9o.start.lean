set_option maxHeartbeats 4000000 in
/-- the law, from its entry -/
theorem whole_start {p : Program} {e : Env} {s : State} {m : MethodId} {below : List Frame} {meth : Method} {c : Code} (l : Launch) (hflags : l.flags = flags0) {b L : Nat} {xs : Nat → Int32} (hL : L ≤ 3584) (C0 : lw_At p s m meth c b L xs) : W p l e room_1 s m #[Value.ref b] below meth c s.heap [] 0 0 (lw_Z below #[Value.ref b] s) (entryFrame m ([Value.ref b] : List Value).toArray 4) := by
  obtain ⟨D, cy, ct, C⟩ := law_ctx C0
  obtain ⟨hx, hb, hr, hml, hown, hts, hX, hbl, hlocks, hgv⟩ := id C0
  have hl := lv_entry ([.ref b]) (n := 4) (Nat.le_of_ble_eq_true rfl)
  rw [lg_entry_eq]
  generalize (lg_sl ([.ref b]) ++ List.replicate (4 - (lg_sl ([.ref b])).length) Slot.unset).toArray = ls at hl ⊢
  have hl : lv_has ls 4 [(0, .ref b)] := hl
  refine law_new (ws := []) C mk_TJ (fun k q h => by simp at h) ⟨fun i j p q h => by simp at h, fun k q h => by simp at h⟩ va_S.rf 7 9 (by decide +kernel) (by decide) (gwI 92 (by decide +kernel)) (gwI 80 (by decide +kernel)) (gwI 95 (by decide +kernel)) q_TJ_init_c (gwI 94 (by decide +kernel)) rfl rfl rfl ⟨by decide +kernel, by decide +kernel, by decide +kernel⟩ hl.1 df_TJ ⟨⟨Nat.le_of_ble_eq_true rfl, Nat.le_of_ble_eq_true rfl⟩, Nat.le_of_ble_eq_true rfl, Nat.le_of_ble_eq_true rfl⟩ (fun aX h H1 locs1 pX _ hPX iX geX _ hS1 => ?_)
  refine lv_astore_n (lv' := [(1, .ref (aX 0)), (0, .ref b)]) hx hb (show decode code 7 = .ok (.astore_n 1, 1) by decide +kernel) rfl hl (by decide) rfl (fun ls1 hl1 => ?_)
  refine law_new (ws := wl cy (shTJ .null) aX h) C mk_Mo hPX (wl_DA iX geX) hS1 10 12 (by decide +kernel) (by decide) (gwI 915 (by decide +kernel)) (gwI 89 (by decide +kernel)) (gwI 918 (by decide +kernel)) q_Mo_init_c (gwI 917 (by decide +kernel)) rfl rfl rfl ⟨by decide +kernel, by decide +kernel, by decide +kernel⟩ hl1.1 df_Mo ⟨⟨Nat.le_of_ble_eq_true rfl, Nat.le_of_ble_eq_true rfl⟩, Nat.le_of_ble_eq_true rfl, Nat.le_of_ble_eq_true rfl⟩ (fun aM mm H2 locs2 pM hPX hPM iM geM hap hS2 => ?_)
  refine lv_astore_n (lv' := [(2, .ref (aM 0)), (1, .ref (aX 0)), (0, .ref b)]) hx hb (show decode code 15 = .ok (.astore_n 2, 1) by decide +kernel) rfl hl1 (by decide) rfl (fun ls2 hl2 => ?_)
  refine lv_iconst (v := 0) hx hb (show decode code 16 = .ok (.iconst 0, 1) by decide +kernel) rfl ?_
  refine lv_istore_n (lv' := [(3, .int 0), (2, .ref (aM 0)), (1, .ref (aX 0)), (0, .ref b)]) hx hb (show decode code 17 = .ok (.istore_n 3, 1) by decide +kernel) rfl hl2 (by decide) rfl (fun ls3 hl3 => ?_)
  exact law_loop C hL (L + 1) 0 (by omega) (by omega) false .null (fun _ => 0) h hp00 mm H2 locs2 ls3 ⟨⟨hPX, iX, geX⟩, ⟨hPM, iM, geM⟩, fun i j hi hj z => hap j hj i _ (wl_get hi) z, rfl, hS2⟩ (RA_init pX pM) (lv_sub hl3 [3, 2, 1, 0] rfl)
