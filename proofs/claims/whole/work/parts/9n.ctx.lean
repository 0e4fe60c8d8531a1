/-! the law, from its entry -/
set_option maxHeartbeats 400000 in
theorem nw_tbl : ∀ q ∈ NWL, Cond.methodLinkNest q.1 q.2.1 q.2.2.1 q.2.2.2 ∈ lw_tbl := List.forall_mem_cons.mpr ⟨List.mem_of_getElem? (i := 102) (by decide +kernel), List.forall_mem_cons.mpr ⟨List.mem_of_getElem? (i := 108) (by decide +kernel), List.forall_mem_cons.mpr ⟨List.mem_of_getElem? (i := 144) (by decide +kernel), List.forall_mem_cons.mpr ⟨List.mem_of_getElem? (i := 163) (by decide +kernel), List.forall_mem_cons.mpr ⟨List.mem_of_getElem? (i := 275) (by decide +kernel), List.forall_mem_cons.mpr ⟨List.mem_of_getElem? (i := 292) (by decide +kernel), List.forall_mem_cons.mpr ⟨List.mem_of_getElem? (i := 309) (by decide +kernel), List.forall_mem_cons.mpr ⟨List.mem_of_getElem? (i := 394) (by decide +kernel), List.forall_mem_cons.mpr ⟨List.mem_of_getElem? (i := 510) (by decide +kernel), List.forall_mem_cons.mpr ⟨List.mem_of_getElem? (i := 516) (by decide +kernel), List.forall_mem_cons.mpr ⟨List.mem_of_getElem? (i := 562) (by decide +kernel), List.forall_mem_cons.mpr ⟨List.mem_of_getElem? (i := 621) (by decide +kernel), List.forall_mem_cons.mpr ⟨List.mem_of_getElem? (i := 768) (by decide +kernel), List.forall_mem_cons.mpr ⟨List.mem_of_getElem? (i := 839) (by decide +kernel), List.forall_mem_cons.mpr ⟨List.mem_of_getElem? (i := 840) (by decide +kernel), List.forall_mem_cons.mpr ⟨List.mem_of_getElem? (i := 856) (by decide +kernel), fun _ h => absurd h List.not_mem_nil⟩⟩⟩⟩⟩⟩⟩⟩⟩⟩⟩⟩⟩⟩⟩⟩
def cmpW (j : Nat) : Cond := Cond.eq (.elem (.static "TimedJoin" "COMPOSED" "[I") (.int (Int32.ofNat j))) (.int (cmpT j))
set_option maxHeartbeats 400000 in
theorem cmp_m0 : ∀ j, j < 13 → (flatC (Jvm.Cond.and given_1 narrow_1))[7 + 0 + j]? = some (cmpW (0 + j)) := by decide +kernel
set_option maxHeartbeats 400000 in
theorem cmp_m13 : ∀ j, j < 13 → (flatC (Jvm.Cond.and given_1 narrow_1))[7 + 13 + j]? = some (cmpW (13 + j)) := by decide +kernel
set_option maxHeartbeats 400000 in
theorem cmp_m26 : ∀ j, j < 13 → (flatC (Jvm.Cond.and given_1 narrow_1))[7 + 26 + j]? = some (cmpW (26 + j)) := by decide +kernel
set_option maxHeartbeats 400000 in
theorem cmp_m39 : ∀ j, j < 13 → (flatC (Jvm.Cond.and given_1 narrow_1))[7 + 39 + j]? = some (cmpW (39 + j)) := by decide +kernel
set_option maxHeartbeats 400000 in
theorem cmp_m52 : ∀ j, j < 13 → (flatC (Jvm.Cond.and given_1 narrow_1))[7 + 52 + j]? = some (cmpW (52 + j)) := by decide +kernel
set_option maxHeartbeats 400000 in
theorem cmp_m65 : ∀ j, j < 13 → (flatC (Jvm.Cond.and given_1 narrow_1))[7 + 65 + j]? = some (cmpW (65 + j)) := by decide +kernel
set_option maxHeartbeats 400000 in
theorem cmp_m78 : ∀ j, j < 13 → (flatC (Jvm.Cond.and given_1 narrow_1))[7 + 78 + j]? = some (cmpW (78 + j)) := by decide +kernel
set_option maxHeartbeats 400000 in
theorem cmp_m91 : ∀ j, j < 13 → (flatC (Jvm.Cond.and given_1 narrow_1))[7 + 91 + j]? = some (cmpW (91 + j)) := by decide +kernel
set_option maxHeartbeats 400000 in
theorem cmp_m104 : ∀ j, j < 13 → (flatC (Jvm.Cond.and given_1 narrow_1))[7 + 104 + j]? = some (cmpW (104 + j)) := by decide +kernel
set_option maxHeartbeats 400000 in
theorem cmp_m117 : ∀ j, j < 13 → (flatC (Jvm.Cond.and given_1 narrow_1))[7 + 117 + j]? = some (cmpW (117 + j)) := by decide +kernel
set_option maxHeartbeats 400000 in
theorem cmp_m130 : ∀ j, j < 13 → (flatC (Jvm.Cond.and given_1 narrow_1))[7 + 130 + j]? = some (cmpW (130 + j)) := by decide +kernel
set_option maxHeartbeats 400000 in
theorem cmp_m143 : ∀ j, j < 13 → (flatC (Jvm.Cond.and given_1 narrow_1))[7 + 143 + j]? = some (cmpW (143 + j)) := by decide +kernel
set_option maxHeartbeats 400000 in
theorem cmp_m156 : ∀ j, j < 13 → (flatC (Jvm.Cond.and given_1 narrow_1))[7 + 156 + j]? = some (cmpW (156 + j)) := by decide +kernel
set_option maxHeartbeats 400000 in
theorem cmp_mem (j : Nat) (hj : j < 169) : cmpW j ∈ flatC (Jvm.Cond.and given_1 narrow_1) := by
  by_cases h0 : j < 13
  · have := cmp_m0 (j - 0) (by omega)
    rw [show 0 + (j - 0) = j by omega] at this
    exact List.mem_of_getElem? this
  by_cases h13 : j < 26
  · have := cmp_m13 (j - 13) (by omega)
    rw [show 13 + (j - 13) = j by omega] at this
    exact List.mem_of_getElem? this
  by_cases h26 : j < 39
  · have := cmp_m26 (j - 26) (by omega)
    rw [show 26 + (j - 26) = j by omega] at this
    exact List.mem_of_getElem? this
  by_cases h39 : j < 52
  · have := cmp_m39 (j - 39) (by omega)
    rw [show 39 + (j - 39) = j by omega] at this
    exact List.mem_of_getElem? this
  by_cases h52 : j < 65
  · have := cmp_m52 (j - 52) (by omega)
    rw [show 52 + (j - 52) = j by omega] at this
    exact List.mem_of_getElem? this
  by_cases h65 : j < 78
  · have := cmp_m65 (j - 65) (by omega)
    rw [show 65 + (j - 65) = j by omega] at this
    exact List.mem_of_getElem? this
  by_cases h78 : j < 91
  · have := cmp_m78 (j - 78) (by omega)
    rw [show 78 + (j - 78) = j by omega] at this
    exact List.mem_of_getElem? this
  by_cases h91 : j < 104
  · have := cmp_m91 (j - 91) (by omega)
    rw [show 91 + (j - 91) = j by omega] at this
    exact List.mem_of_getElem? this
  by_cases h104 : j < 117
  · have := cmp_m104 (j - 104) (by omega)
    rw [show 104 + (j - 104) = j by omega] at this
    exact List.mem_of_getElem? this
  by_cases h117 : j < 130
  · have := cmp_m117 (j - 117) (by omega)
    rw [show 117 + (j - 117) = j by omega] at this
    exact List.mem_of_getElem? this
  by_cases h130 : j < 143
  · have := cmp_m130 (j - 130) (by omega)
    rw [show 130 + (j - 130) = j by omega] at this
    exact List.mem_of_getElem? this
  by_cases h143 : j < 156
  · have := cmp_m143 (j - 143) (by omega)
    rw [show 143 + (j - 143) = j by omega] at this
    exact List.mem_of_getElem? this
  by_cases h156 : j < 169
  · have := cmp_m156 (j - 156) (by omega)
    rw [show 156 + (j - 156) = j by omega] at this
    exact List.mem_of_getElem? this
  omega
set_option maxHeartbeats 400000 in
theorem inst_tbl : ∀ k, k < 10 → Cond.instantiable (nmC k) (nsl k) ∈ GW := fun k hk => by
  match k, hk with
  | 0, _ => exact gwI 274 (by decide +kernel)
  | 1, _ => exact gwI 162 (by decide +kernel)
  | 2, _ => exact gwI 308 (by decide +kernel)
  | 3, _ => exact gwI 291 (by decide +kernel)
  | 4, _ => exact gwI 107 (by decide +kernel)
  | 5, _ => exact gwI 101 (by decide +kernel)
  | 6, _ => exact gwI 143 (by decide +kernel)
  | 7, _ => exact gwI 219 (by decide +kernel)
  | 8, _ => exact gwI 93 (by decide +kernel)
  | 9, _ => exact gwI 916 (by decide +kernel)
set_option maxHeartbeats 2000000 in
theorem law_ctx {p : Program} {s : State} {m : MethodId} {meth : Method} {c : Code} {b L : Nat} {xs : Nat → Int32} (C0 : lw_At p s m meth c b L xs) : ∃ (D : va_G) (cy : ClassId × ClassId) (ct : Nat), LCx p s m meth c b L xs D cy ct := by
  obtain ⟨hx, hb, hr, hml, hown, hts, hX, hbl, hlocks, hgv⟩ := id C0
  have hkn : ∀ k : Nat, ∃ f : ClassId × (Nat → Nat), k < 10 → u_Kn s (nmC k) (fT k) (nsl k) f.1 f.2 := fun k => by
    by_cases hk : k < 10
    · obtain ⟨cC, iS, h⟩ := u_known hts (fun w hw => gw_tbl (kd_ws hk w hw)) (hts _ (gw_tbl (inst_tbl k hk)))
      exact ⟨(cC, iS), fun _ => h⟩
    · exact ⟨(m.cls, fun _ => 0), fun z => absurd z hk⟩
  obtain ⟨f, hf⟩ := Classical.axiomOfChoice hkn
  obtain ⟨cI, kI, coI, i1, i2, i3⟩ := Cond.arrayClass_spec (hts _ (gw_tbl w_aI))
  obtain ⟨cJ, kJ, coJ, j1, j2, j3⟩ := Cond.arrayClass_spec (hts _ (gw_tbl w_aJ))
  have hs := flat_of_before _ hgv
  have hA : ∀ a : Nat, a < s.heap.size → ¬ LA s a := fun a ha => Nat.not_le.mpr ha
  obtain ⟨ct, e1, hT⟩ := va_Tof (tm := .static "TimedJoin" "COMPOSED" "[I") (ty := .int) (N := 169) (f := fun j => .int (cmpT j)) (A := LA s) (by decide) (hs _ (by decide +kernel)) (va_eqt (hs _ (by decide +kernel))) (fun j hj => va_eqt (hs _ (cmp_mem j hj))) hA
  have hZ := va_Zof (hts (.laysStatic "TimedJoin" "COMPOSED" "[I") (List.mem_of_getElem? (i := 827) (by decide +kernel))) (hts (.initialized "TimedJoin") (gw_tbl (gwI 80 (by decide +kernel)))) e1 hA
  refine ⟨(fun k => (f k).1, fun k => (f k).2), (cI, cJ), ct, C0, ⟨fun k q hq => ?_, fun k q hq => ?_⟩, ⟨hZ, hT⟩, fun q hq => va_Nw.of rfl (hts _ (nw_tbl q hq))⟩
  · have hk : k < 10 := (List.getElem?_eq_some_iff.mp hq).1
    rw [kd_cl hk] at hq
    cases hq
    exact hf k hk
  · match k, hq with
    | 0, hq => cases hq; exact ⟨fun n z => ⟨fun k h => (by cases h), kI, i2, coI, i3⟩, i1⟩
    | 1, hq => cases hq; exact ⟨fun n z => ⟨fun k h => (by cases h), kJ, j2, coJ, j3⟩, j1⟩
    | k + 2, hq => cases hq
section LN
variable {p : Program} {l : Launch} {e : Env} {s : State} {m : MethodId} {below : List Frame} {meth : Method} {c : Code} {b L : Nat} {xs : Nat → Int32} {D : va_G} {cy : ClassId × ClassId} {ct : Nat} {H : Heap} {locs : List Loc} {cells slots : Nat} {Q : State → Prop} {ls : Array Slot} {pc : Nat}
set_option maxHeartbeats 8000000 in
/-- an object is made by the law -/
theorem law_new {q' : MI} {d' mc' ms' : Nat} {fs' : List Value} {sh' : Shp} {Pr' : HP → Prop} {ws : va_W} (C : LCx p s m meth c b L xs D cy ct) (hM : Mk d' q' fs' sh' Pr' mc' ms') (hP : va_P D vwCl ws H) (hD : va_D (LA s) ws) (hS : va_S (LA s) s.heap H locs) (cidx midx : Nat) (hok : (decide (decode code pc = .ok (.new cidx, 3)) && (decide (decode code (pc + 3) = .ok (.dup, 1)) && decide (decode code (pc + 4) = .ok (.invokespecial midx, 3)))) = true) (k10 : q'.2.2.2.2 < 10) (k1 : Cond.classLink R_law cidx (nmC q'.2.2.2.2) ∈ GW) (k3 : Cond.initialized (nmC q'.2.2.2.2) ∈ GW) (k4 : Cond.instanceMethod q'.1 ∈ GW) (k5 : mdCode q') (k6 : Cond.methodLink R_law midx q'.1 ∈ GW) (n1 : q'.1.cls = nmC q'.2.2.2.2) (n2 : q'.1.name = "<init>") (n3 : q'.2.2.2.1 = none) (n4 : q'.1.cls ≠ "java/lang/invoke/MethodHandle" ∧ q'.1.cls ≠ "java/lang/invoke/VarHandle" ∧ (parseMethodDescriptor q'.1.desc).map (fun d => d.parameters.length) = some 0) (hsz : ls.size = 4) (hfs : ∀ j, j < nsl q'.2.2.2.2 → defaultValue (fY q'.2.2.2.2 j) = vp_V fs' j) (hR : (d' + 1 ≤ room_1.frames ∧ 8 + (q'.2.2.1 + 11) + 40 * d' ≤ room_1.locals) ∧ cells + 1 + mc' ≤ room_1.cells ∧ slots + nsl q'.2.2.2.2 + ms' ≤ room_1.slots)
    (k : ∀ (ad' : Nat → Nat) (hp' : HP) (H1 : Heap) (locs1 : List Loc), Pr' hp' → va_P D vwCl ws H1 → va_P D vwCl (wl cy sh' ad' hp') H1 → inj sh' ad' → (∀ c, c < sh'.1 → s.heap.size ≤ ad' c) → (∀ c, c < sh'.1 → ∀ (i : Nat) (x : Nat × va_E), ws[i]? = some x → x.1 ≠ ad' c) → va_S (LA s) s.heap H1 locs1 → W p l e room_1 s m #[Value.ref b] below meth c H1 locs1 (cells + 1 + mc') (slots + nsl q'.2.2.2.2 + ms') Q (F0 m (pc + 7) ls [.ref (ad' 0)])) : W p l e room_1 s m #[Value.ref b] below meth c H locs cells slots Q (F0 m pc ls []) := by
  simp only [Bool.and_eq_true, decide_eq_true_eq] at hok
  obtain ⟨o1, o2, o3⟩ := hok
  obtain ⟨hx, hb, hr, hml, hown, hts, hX, hbl, hlocks, hgv⟩ := id C.1
  refine va_new (ci := q'.2.2.2.2) (fs := fs') (C := nmC q'.2.2.2.2) (T := fT q'.2.2.2.2) (N := nsl q'.2.2.2.2) hx hb hts (fun w hw => gw_tbl (kd_ws k10 w hw)) (fY q'.2.2.2.2) (kd_ty k10) hown (hts _ (gw_tbl k1)) (hts _ (gw_tbl (inst_tbl _ k10))) (hts _ (gw_tbl k3)) C.2.1 hP hD hS (fun _ h => h) (kd_cl k10) hfs (by omega) (by omega) o1 (fun a H1 hP1 hD1 hS1 => ?_)
  refine lv_dup hx hb o2 rfl ?_
  have hat : (ws ++ [(a, Sum.inr (q'.2.2.2.2, fs'))])[ws.length]? = some (a, Sum.inr (q'.2.2.2.2, fs')) := by rw [List.getElem?_append_right (Nat.le_refl _), Nat.sub_self]; rfl
  have hAa : s.heap.size ≤ a := hD1.2 _ _ hat
  have hn : ∀ x, A1 a H1.size x → LA s x := fun x hx => hx.elim (fun z => by rw [z]; exact hAa) (fun z => Nat.le_trans hS1.1 z)
  have hpre : ∀ U : State, U.heap = H1 → s.WarmedH U.vm → va_Pc [.ref a] (PreM D cy ct a q'.2.2.2.2 fs' H1.size) ([Value.ref a] : List Value).toArray U := fun U hU hW => by
    refine ⟨rfl, by rw [hU], by rw [hU]; exact P_right hP1, va_K.moved hW.alike C.2.1, ?_, fun w hw => va_Nw.warmM hW (C.2.2.2 w hw)⟩
    rw [hU]
    exact ⟨((C.2.2.1.1.kept hS1.2.1).narrow hn).moved hW.alike, ((C.2.2.1.2.kept hS1.2.1).narrow hn).moved hW.alike⟩
  have hw : wsM q' = Cond.code q'.1 q'.2.1 q'.2.2.1 none :: GW := by unfold wsM; rw [n3]
  have hini : (Cond.initialized q'.1.cls).before #[Value.ref b] s = true := by rw [n1]; exact hts _ (gw_tbl k3)
  have hcb : CallB room_1 s #[Value.ref b] R_law midx q'.1 q'.2.1 q'.2.2.1 none (wsM q') (rmK d' mc' ms') mc' ms' 0 ∧ q'.1.name = "<init>" ∧ (Cond.instanceMethod q'.1).before #[Value.ref b] s = true := cwI 0 hts (gw_inL k5) hw rfl rfl hini (hts _ (gw_tbl k6)) (hts _ (gw_tbl k4)) n2 n4 hR.1
  have hMM := hM l D cy ct H1.size a
  have hrun : va_Run p l e room_1 s m #[Value.ref b] below meth c H1 locs (cells + 1) (slots + nsl q'.2.2.2.2) mc' ms' (F0 m (pc + 4) ls [.ref a, .ref a]) [.ref a] (PostM D cy sh' Pr' a H1.size ([Value.ref a] : List Value).toArray) (A1 a H1.size) := va_runI (As := []) (rest := [.ref a]) C.fix hMM hcb ⟨preM_blind, hpre⟩ rfl rfl hsz rfl (lv_room (Nat.le_of_ble_eq_true rfl)) o3 hR.2
  refine callG2 (v := none) (B := Built D cy sh' Pr' a H1.size) (A1 := A1 a H1.size) hrun hS1 (fun x _ z => hn x z) hn (fun H2 locs2 hB hF hS2 => ?_)
  obtain ⟨ad', hp', hPr, ha0, hinj, hszS, hPw⟩ := hB
  have hne : ∀ (i : Nat) (x : Nat × va_E), ws[i]? = some x → x.1 < H1.size ∧ x.1 ≠ a := fun i x hx => by
    have hi : i < ws.length := (List.getElem?_eq_some_iff.mp hx).1
    refine ⟨(P_left hP1 i x hx).lt, fun z => ?_⟩
    have := hD1.1 i ws.length x _ (by rw [List.getElem?_append_left hi]; exact hx) hat z
    omega
  have hend := k ad' hp' H2 locs2 hPr ((P_left hP1).kept (fun i x hx => hF.2.1 _ (hne i x hx).1 (fun z => z.elim (hne i x hx).2 (fun z => absurd (hne i x hx).1 (by omega))))) hPw hinj (fun c hc => by
    by_cases z : c = 0
    · rw [z, ha0]; exact hAa
    · exact Nat.le_trans hS1.1 (hszS c (by omega) hc)) (fun c hc i x hx z => by
    by_cases y : c = 0
    · rw [y, ha0] at z; exact (hne i x hx).2 z
    · have h1 := hszS c (by omega) hc
      have h2 := (hne i x hx).1
      omega) hS2
  rw [ha0] at hend
  exact hend
end LN
set_option maxHeartbeats 400000 in
theorem df_TJ : ∀ j, j < nsl q_TJ_init.2.2.2.2 → defaultValue (fY q_TJ_init.2.2.2.2 j) = vp_V [.null, .null, .null, .null, .null, .null] j := fun j hj => by
  have hj : j < 6 := hj
  rcases (show j = 0 ∨ j = 1 ∨ j = 2 ∨ j = 3 ∨ j = 4 ∨ j = 5 by omega) with rfl | rfl | rfl | rfl | rfl | rfl <;> rfl
set_option maxHeartbeats 400000 in
theorem df_Mo : ∀ j, j < nsl q_Mo_init.2.2.2.2 → defaultValue (fY q_Mo_init.2.2.2.2 j) = vp_V [.null, .null, .int 0, .null, .null, .null, .int 0, .null, .null, .int 0, .null, .null, .int 0, .null] j := fun j hj => by
  have hj : j < 14 := hj
  rcases (show j = 0 ∨ j = 1 ∨ j = 2 ∨ j = 3 ∨ j = 4 ∨ j = 5 ∨ j = 6 ∨ j = 7 ∨ j = 8 ∨ j = 9 ∨ j = 10 ∨ j = 11 ∨ j = 12 ∨ j = 13 by omega) with rfl | rfl | rfl | rfl | rfl | rfl | rfl | rfl | rfl | rfl | rfl | rfl | rfl | rfl <;> rfl

