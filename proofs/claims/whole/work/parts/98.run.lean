/-! a method of the small machine, called from anywhere -/
section XR
variable {p : Program} {l : Launch} {e : Env} {R : Room} {s : State} {m : MethodId} {args : Array Value} {below : List Frame} {meth : Method} {c : Code} {D : va_G} {cy : ClassId × ClassId} {ct : Nat} {H : Heap} {locs : List Loc} {cells slots : Nat} {ls : Array Slot} {pc : Nat}
set_option maxHeartbeats 400000 in
theorem X_run {q' : MI} {d' n idx nL c0 : Nat} {own : String} {Ts : List Cond} {cc : ByteArray} {sh : Shp} {ad : Nat → Nat} {hp hp1 : HP} {rr : Option Value} {As rest : List Value} (hfix : CallFix p m c cc nL s args Ts own) (hGI : GoodIn Ts (wsV own idx (nmC q'.2.2.2.2) q'.1 (wsM q'))) (hq : q'.1.cls = nmC q'.2.2.2.2 ∧ q'.1.cls ≠ "java/lang/invoke/MethodHandle" ∧ q'.1.cls ≠ "java/lang/invoke/VarHandle" ∧ (parseMethodDescriptor q'.1.desc).map (fun d => d.parameters.length) = some n) (hK : va_K D vwCl (tys2 cy) s) (hP : va_P D vwCl (wl cy sh ad hp) H) (hi : inj sh ad) (hZ : Zt ct (AA sh ad H.size) s H) (hN : NW s) (hE : Ex d' q' sh (.ref c0 :: As) hp rr hp1) (hk : isK sh c0 q'.2.2.2.2) (h10 : q'.2.2.2.2 < 10) (hlen : As.length = n) (hsz : ls.size = nL) (hr : (rest.map fun v => v.category).sum ≤ 8) (hd : decode cc pc = .ok (.invokevirtual idx, 3)) (hR : d' + 1 ≤ R.frames ∧ 8 + (q'.2.2.1 + 11) + 40 * d' ≤ R.locals) (hc : cells ≤ R.cells ∧ slots ≤ R.slots) : va_Run p l e R s m args below meth c H locs cells slots 0 0 (F0 m pc ls ((As.map (cv ad ct)).reverse ++ .ref (ad c0) :: rest)) rest (fun st oc t => (oc = .returned (rr.map (cv ad ct)) ∧ va_P D vwCl (wl cy sh ad hp1) t.heap) ∧ va_F (AA sh ad H.size) st t) (AA sh ad H.size) :=
  va_runV (As := As.map (cv ad ct)) (rest := rest) (b := ad c0) (C := nmC q'.2.2.2.2) hfix (hE l D cy ad ct H.size) (cwV n hfix.2.2.2.2 hGI rfl rfl rfl hq hR) ⟨preX_blind, va_recv hK hP (kd_cl h10) (cE_obj hk h10), fun U hU hW => ⟨rfl, by rw [hU], by rw [hU]; exact hP, va_K.moved hW.alike hK, hi, by rw [hU]; exact ⟨hZ.1.moved hW.alike, hZ.2.moved hW.alike⟩, fun w hw => va_Nw.warmM hW (hN w hw)⟩⟩ rfl (by rw [List.length_map]; exact hlen) hsz rfl (lv_room hr) hd hc
end XR
set_option maxHeartbeats 400000 in
theorem gw_V {q q' : MI} {o idx n : Nat} (hl : LkV o idx q' n) : GoodIn (wsM q) (wsV (nmC o) idx (nmC q'.2.2.2.2) q'.1 (wsM q')) := by
  obtain ⟨⟨l1, l2, l3, l4, l5⟩, -⟩ := hl
  intro w hw
  unfold wsV at hw
  rcases List.mem_append.mp hw with h | h
  · have hw' : w ∈ GW := by
      rcases List.mem_cons.mp h with rfl | h
      · exact l1
      · rcases List.mem_cons.mp h with rfl | h
        · exact l2
        · rcases List.mem_cons.mp h with rfl | h
          · exact l3
          · rcases List.mem_cons.mp h with rfl | h
            · exact l4
            · cases h
    exact ⟨List.mem_cons_of_mem _ hw', gw_good hw'⟩
  · exact gw_in l5 w h
/-- the fresh net -/
def PrW (hp : HP) : Prop := hp.1 0 2 = 0 ∧ ∀ j, j < 36 → hp.1 1 j = nI (lz j)
set_option maxHeartbeats 400000 in
theorem S_We0 : S_We shWe 0 := ⟨⟨by decide, rfl⟩, ⟨by decide, rfl, rfl⟩, ⟨by decide, rfl, rfl⟩⟩
set_option maxHeartbeats 4000000 in
set_option maxRecDepth 10000 in
set_option maxHeartbeats 400000 in
theorem mk_We : Mk 2 q_We_init [.null, .null, .int 0] shWe PrW 2 72 := by
  refine Mk.of (by decide +kernel) rfl (Nat.le_of_ble_eq_true rfl) rfl ?_
  intro p l e s m args below meth c D cy ct h0 C ls hl hh
  refine K_begin C hl lkO_7 (by decide +kernel) ⟨Nat.le_of_ble_eq_true rfl, Nat.le_of_ble_eq_true rfl⟩ ?_
  refine K_arrI C hl hh 0 36 2 9 12 36 (by decide +kernel) rfl (by decide +kernel) (Nat.le_of_ble_eq_true rfl) ⟨by decide, by decide, by decide⟩ ⟨Nat.le_of_ble_eq_true rfl, Nat.le_of_ble_eq_true rfl⟩ (fun a1 H locs hh => ?_)
  refine K_arrI C hl hh 1 36 2 15 20 36 (by decide +kernel) rfl (by decide +kernel) (Nat.le_of_ble_eq_true rfl) ⟨by decide, by decide, by decide⟩ ⟨Nat.le_of_ble_eq_true rfl, Nat.le_of_ble_eq_true rfl⟩ (fun a2 H locs hh => ?_)
  obtain ⟨ad, had⟩ : ∃ ad : Nat → Nat, ad = fun c => ([h0, a1, a2] : List Nat).getD c 0 := ⟨_, rfl⟩
  have hP : va_P D vwCl (wl cy shWe ad hp00) H := by rw [had]; exact hh.1
  have hD : va_D (A1 h0 s.heap.size) (wl cy shWe ad hp00) := by rw [had]; exact hh.2.1
  have h00 : ad 0 = h0 := by rw [had]; rfl
  have hS := hh.2.2
  clear had hh
  obtain ⟨h', e1, f1, f2, f3⟩ := X_loosenc hp00 0
  have hE := t_We_loosen shWe 0 S_We0 hp00 h' e1
  have hn : ∀ x, AA shWe ad H.size x → A1 h0 s.heap.size x := fun x hx => hx.elim (fun ⟨c, hc, e⟩ => by rw [e]; exact (wl_inj hD).2 c hc) (fun h => Or.inr (Nat.le_trans hS.1 h))
  have hZ : Zt ct (AA shWe ad H.size) s H := ⟨(C.2.2.1.1.kept hS.2.1).narrow hn, (C.2.2.1.2.kept hS.2.1).narrow hn⟩
  refine lv_aload_n (x := h0) C.1.1 C.1.2.1 (show decode q_We_init.2.1 20 = .ok (.aload_n 0, 1) by decide +kernel) rfl (lv_at hl 0 rfl) ?_
  have hrun := X_run (l := l) (e := e) (R := rmK 2 2 72) (below := below) (meth := meth) (locs := locs) (cells := 0 + 1 + 1) (slots := 0 + 36 + 36) (ls := ls) (pc := 21) (As := []) (rest := []) ⟨C.1.1, C.1.2.1, C.1.2.2.1, C.1.2.2.2.2.2.1, C.1.2.2.2.2.2.2⟩ (gw_V (q := q_We_init) lk_7_18) lk_7_18.2 C.2.1 hP (wl_inj hD).1 hZ C.2.2.2.1 hE ⟨by decide, rfl⟩ (by decide) rfl hl.1 (Nat.le_of_ble_eq_true rfl) (by decide +kernel) ⟨Nat.le_of_ble_eq_true rfl, Nat.le_of_ble_eq_true rfl⟩ ⟨Nat.le_of_ble_eq_true rfl, Nat.le_of_ble_eq_true rfl⟩
  rw [h00] at hrun
  refine callG2 (v := none) (B := fun H1 => va_P D vwCl (wl cy shWe ad h') H1) (A1 := AA shWe ad H.size) hrun hS (fun x _ h => hn x h) hn (fun H1 locs1 hB hF hS1 => ?_)
  exact K_ret (sh := shWe) (Pr := PrW) C rfl hB (wl_DA (wl_inj hD).1 (wl_inj hD).2) hS1 ⟨f2, f1⟩ h00 (by decide) (show decode q_We_init.2.1 24 = .ok (.return_, 1) by decide +kernel) (Nat.le_of_ble_eq_true rfl) (Nat.le_of_ble_eq_true rfl)
