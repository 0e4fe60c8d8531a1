/-! the image is taken for the first time: a State is made -/
def BT (D : va_G) (cy : ClassId × ClassId) (ad : Nat → Nat) (Pg : HP → Prop) (sz : Nat) (H : Heap) : Prop := ∃ (a2 : Nat → Nat) (g : HP), Pg g ∧ (∀ c, c < 42 → a2 c = ad c) ∧ inj (sh73 .null) a2 ∧ (∀ c, 42 ≤ c → c < 73 → sz ≤ a2 c) ∧ va_P D vwCl (wl cy (sh73 (.ref (a2 42))) a2 g) H
def PostT (D : va_G) (cy : ClassId × ClassId) (ad : Nat → Nat) (Pg : HP → Prop) (sz : Nat) : Array Value → State → Outcome → State → Prop := fun _ st oc t => (oc = .returned (some (.int 1)) ∧ BT D cy ad Pg sz t.heap) ∧ va_F (AA (shTJ .null) ad sz) st t
set_option maxHeartbeats 16000000 in
set_option maxRecDepth 10000 in
set_option maxHeartbeats 400000 in
theorem im_T0 (l : Launch) (D : va_G) (cy : ClassId × ClassId) (ad : Nat → Nat) (ct sz : Nat) (h : HP) (v : Int32) (hv : ¬ v = 0) (Pg : HP → Prop) (hg : ∀ k0, ∃ g, f_St_copyFrom 42 (twoW h k0) 1 = some g ∧ Pg g) : Met l q_TJ_image.1 (wsM q_TJ_image) (rmK 4 31 2573) (va_Pc [.ref (ad 0), .int v] (PreX D cy (shTJ .null) ad ct h sz)) (PostT D cy ad Pg sz) 31 2573 (AA (shTJ .null) ad sz) := by
  refine Met_im l D cy ad ct sz (fun p e s m args below meth c hz C ls hl hP => ?_)
  subst hz
  have hts := C.1.2.2.2.2.2.2
  have hk0 : isK (shTJ .null) 0 8 := ⟨Nat.le_of_ble_eq_true rfl, rfl⟩
  refine lv_iload_n C.1.1 C.1.2.1 (show decode q_TJ_image.2.1 0 = .ok (.iload_n 1, 1) by decide +kernel) rfl (lv_at hl 1 rfl) ?_
  refine lv_if_eq (tgt := 35) C.1.1 C.1.2.1 (show decode q_TJ_image.2.1 1 = .ok (.ifCond .eq 34, 3) by decide +kernel) (by decide) (fun z => absurd z hv) (fun _ => ?_)
  refine im_kept (k := 8) C hk0 hP (lv_at hl 0 rfl) (show decode q_TJ_image.2.1 4 = .ok (.aload_n 0, 1) by decide +kernel) (by decide +kernel) rfl ?_
  refine lv_ifnonnullN C.1.1 C.1.2.1 (show decode q_TJ_image.2.1 8 = .ok (.ifnonnull 14, 3) by decide +kernel) ?_
  refine lv_aload_n (x := ad 0) C.1.1 C.1.2.1 (show decode q_TJ_image.2.1 11 = .ok (.aload_n 0, 1) by decide +kernel) rfl (lv_at hl 0 rfl) ?_
  obtain ⟨⟨k10, k1, k2, k3, k4, k5, k6⟩, n1, n2, n3, n4⟩ := lkI_St
  refine va_new (ci := 5) (fs := [.null, .null, .null, .null, .null, .null, .int 0, .int 0]) (C := nmC 5) (T := fT 5) (N := nsl 5) C.1.1 C.1.2.1 hts (fun w hw => List.mem_cons_of_mem _ (kd_ws (k := 5) (by decide) w hw)) (fY 5) (kd_ty (by decide)) C.1.2.2.2.2.2.1 (hts _ (List.mem_cons_of_mem _ k1)) (hts _ (List.mem_cons_of_mem _ k2)) (hts _ (List.mem_cons_of_mem _ k3)) C.2.1 hP (wl_D C.2.2.1) va_S.rf (fun _ hx => Or.inr hx) (kd_cl (by decide)) df_St (Nat.le_of_ble_eq_true rfl) (Nat.le_of_ble_eq_true rfl) (show decode q_TJ_image.2.1 12 = .ok (.new 9, 3) by decide +kernel) (fun a H1 hP1 hD1 hS1 => ?_)
  refine lv_dup C.1.1 C.1.2.1 (show decode q_TJ_image.2.1 15 = .ok (.dup, 1) by decide +kernel) rfl ?_
  have l1 : (wl cy (shTJ .null) ad h).length = 42 := by simp [wl, shTJ, shOf]
  have hat : ∀ e, (wl cy (shTJ .null) ad h ++ [(a, e)])[42]? = some (a, e) := fun e => by rw [List.getElem?_append_right (by rw [l1]; exact Nat.le_refl _), l1]; rfl
  have hne : ∀ i, i < 42 → ad i ≠ a := fun i hi z => by
    have := hD1.1 i 42 (ad i, cE cy (shTJ .null) ad h i) _ (by rw [List.getElem?_append_left (by rw [l1]; exact hi)]; exact wl_get hi) (hat _) z
    omega
  have hAa : AA (shTJ .null) ad s.heap.size a := hD1.2 42 _ (hat _)
  have hsa : s.heap.size ≤ a := hAa.elim (fun ⟨i, hi, z⟩ => absurd z.symm (hne i hi)) id
  have hn : ∀ x, A1 a H1.size x → AA (shTJ .null) ad s.heap.size x := fun x hx => hx.elim (fun z => by rw [z]; exact hAa) (fun z => Or.inr (Nat.le_trans hS1.1 z))
  have hpre : ∀ U : State, U.heap = H1 → s.WarmedH U.vm → va_Pc [.ref a] (PreM D cy ct a 5 [.null, .null, .null, .null, .null, .null, .int 0, .int 0] H1.size) ([Value.ref a] : List Value).toArray U := fun U hU hW => by
    refine ⟨rfl, by rw [hU], by rw [hU]; exact P_right hP1, va_K.moved hW.alike C.2.1, ?_, fun w hw => va_Nw.warmM hW (C.2.2.2.2 w hw)⟩
    rw [hU]
    exact ⟨((C.2.2.2.1.1.kept hS1.2.1).narrow hn).moved hW.alike, ((C.2.2.2.1.2.kept hS1.2.1).narrow hn).moved hW.alike⟩
  have hnw : va_Nw (.methodLinkNest (nmC 8) 11 q_St_init.1 "TimedJoin") s := C.2.2.2.2 _ (show (nmC 8, 11, q_St_init.1, "TimedJoin") ∈ NWL from List.mem_of_getElem? (i := 0) rfl)
  have hcn : va_CN (rmK 4 31 2573) s args (nmC 8) 11 q_St_init.1 "TimedJoin" q_St_init.2.1 q_St_init.2.2.1 none (wsM q_St_init) (rmK 3 30 2565) 30 2565 0 := va_cnB 0 hts (gw_in k5) rfl rfl rfl hnw (hts _ (List.mem_cons_of_mem _ k3)) n4 ⟨Nat.le_of_ble_eq_true rfl, Nat.le_of_ble_eq_true rfl⟩
  have hrun : va_Run p l e (rmK 4 31 2573) s m args below meth c H1 [] (0 + 1) (0 + nsl 5) 30 2565 (F0 m 16 ls [.ref a, .ref a, .ref (ad 0)]) [.ref a, .ref (ad 0)] (PostM D cy shSt PrS a H1.size ([Value.ref a] : List Value).toArray) (A1 a H1.size) := va_runIN (As := []) (rest := [.ref a, .ref (ad 0)]) ⟨C.1.1, C.1.2.1, C.1.2.2.1, C.1.2.2.2.2.2.1, hts⟩ (mk_St l D cy ct H1.size a) ⟨hcn, n2, hts _ (List.mem_cons_of_mem _ k4)⟩ ⟨preM_blind, hpre⟩ rfl rfl hl.1 rfl (lv_room (Nat.le_of_ble_eq_true rfl)) (show decode q_TJ_image.2.1 16 = .ok (.invokespecial 11, 3) by decide +kernel) ⟨Nat.le_of_ble_eq_true rfl, Nat.le_of_ble_eq_true rfl⟩
  refine callG2 (v := none) (B := Built D cy shSt PrS a H1.size) (A1 := A1 a H1.size) hrun hS1 (fun x _ z => hn x z) hn (fun H2 locs2 hB hF hS2 => ?_)
  obtain ⟨aS, k0, -, ha0, hinj, hszS, hPS⟩ := hB
  have hXlt : ∀ i, i < 42 → ad i < s.heap.size := fun i hi => wl_lt hP hi
  have hPX : va_P D vwCl (wl cy (shTJ .null) ad h) H2 := wl_kept (P_left hP1) (fun i hi => hF.2.1 _ (wl_lt (P_left hP1) hi) (fun z => z.elim (hne i hi) (fun z => absurd (wl_lt (P_left hP1) hi) (by omega))))
  have hSge : ∀ i, i < 31 → s.heap.size ≤ aS i := fun i hi => by
    by_cases z : i = 0
    · rw [z, ha0]; exact hsa
    · exact Nat.le_trans hS1.1 (hszS i (by omega) hi)
  have hD2 : va_D (AA (shTJ .null) ad s.heap.size) (wl cy (shTJ .null) ad h ++ wl cy shSt aS k0) := D_app (wl_D C.2.2.1) (wl_DA hinj (fun i hi => Or.inr (hSge i hi))) (fun i j x y hx hy z => by
    obtain ⟨hi, rfl⟩ := wl_at hx
    obtain ⟨hj, rfl⟩ := wl_at hy
    have z : ad i = aS j := z
    have h1 := hXlt i hi
    have h2 := hSge j hj
    omega)
  refine va_put (v := .ref a) (ty := .object "TimedJoin$State") C.1.1 C.1.2.1 hts (fun w hw => List.mem_cons_of_mem _ (kd_ws (k := 8) (by decide) w hw)) (fY 8) (kd_ty (by decide)) (kd_nm (by decide)) C.1.2.2.2.2.2.1 C.2.1 (hPX.app hPS) hD2 hS2 0 (by rw [List.getElem?_append_left (by rw [l1]; decide)]; exact cE_obj hk0 (by decide)) (kd_cl (by decide)) 1 (by decide) (hts _ (List.mem_cons_of_mem _ (ft_link (o := 8) (k := 375) (a := 8) (b := 1) (by decide +kernel) (by decide)))) (fun _ hx => hx) (by decide +kernel) (by decide +kernel) rfl rfl (Nat.le_of_ble_eq_true rfl) (show decode q_TJ_image.2.1 19 = .ok (.putfield 375, 3) by decide +kernel) (fun H3 locs3 hP3 hD3 hS3 => ?_)
  obtain ⟨a2, ha2⟩ : ∃ a2, a2 = adT ad aS := ⟨_, rfl⟩
  have e42 : a2 42 = a := by rw [ha2]; show aS 0 = a; exact ha0
  have elo : ∀ i, i < 42 → a2 i = ad i := fun i hi => by rw [ha2]; exact if_pos hi
  have ehi : ∀ i, 42 ≤ i → a2 i = aS (i - 42) := fun i hi => by rw [ha2]; exact if_neg (by omega)
  have hP73 : va_P D vwCl (wl cy (sh73 (.ref (a2 42))) a2 (twoW h k0)) H3 := by
    rw [e42, ha2, wl_two, ← wl_put0 cy .null (.ref a) ad h]
    rw [List.set_append_left _ _ (by rw [l1]; decide)] at hP3
    exact hP3
  have hge : ∀ i, 42 ≤ i → i < 73 → s.heap.size ≤ a2 i := fun i h1 h2 => by rw [ehi i h1]; exact hSge _ (by omega)
  have hi2 : inj (sh73 (.ref (a2 42))) a2 := fun i j hi hj z => by
    have hi : i < 73 := hi
    have hj : j < 73 := hj
    by_cases i4 : i < 42
    · by_cases j4 : j < 42
      · rw [elo i i4, elo j j4] at z; exact C.2.2.1 i j i4 j4 z
      · have h1 := hXlt i i4
        have h2 := hge j (by omega) hj
        rw [elo i i4] at z; omega
    · by_cases j4 : j < 42
      · have h1 := hXlt j j4
        have h2 := hge i (by omega) hi
        rw [elo j j4] at z; omega
      · rw [ehi i (by omega), ehi j (by omega)] at z
        have := hinj (i - 42) (j - 42) (show i - 42 < 31 by omega) (show j - 42 < 31 by omega) z
        omega
  have hA2 : ∀ i, i < (sh73 (.ref (a2 42))).1 → AA (shTJ .null) ad s.heap.size (a2 i) := fun i hi => by
    by_cases i4 : i < 42
    · exact Or.inl ⟨i, i4, elo i i4⟩
    · exact Or.inr (hge i (by omega) hi)
  obtain ⟨g, eg, pg⟩ := hg k0
  have hl0 : ls[0]? = some (.val (.ref (a2 0))) := by rw [elo 0 (by decide)]; exact lv_at hl 0 rfl
  have hk7 : isK (sh73 (.ref (a2 42))) 0 8 := ⟨Nat.le_of_ble_eq_true rfl, rfl⟩
  refine im_kept (k := 26) C hk7 hP73 hl0 (show decode q_TJ_image.2.1 22 = .ok (.aload_n 0, 1) by decide +kernel) (by decide +kernel) rfl ?_
  refine im_now (k := 30) C hk7 hP73 hl0 (show decode q_TJ_image.2.1 26 = .ok (.aload_n 0, 1) by decide +kernel) (by decide +kernel) rfl ?_
  refine im_copy (v0 := 1) (c0 := 42) C hi2 hA2 hP73 hS3 (t_St_copyFrom _ 42 (S_St42 _) (twoW h k0) 1 (S_St1 _) g eg) ⟨Nat.le_of_ble_eq_true rfl, rfl⟩ hl.1 (show decode q_TJ_image.2.1 30 = .ok (.invokevirtual 378, 3) by decide +kernel) ⟨Nat.le_of_ble_eq_true rfl, Nat.le_of_ble_eq_true rfl⟩ ⟨Nat.le_of_ble_eq_true rfl, Nat.le_of_ble_eq_true rfl⟩ (fun H4 locs4 hP4 hS4 => ?_)
  refine lv_iconst (v := 1) C.1.1 C.1.2.1 (show decode q_TJ_image.2.1 33 = .ok (.iconst 1, 1) by decide +kernel) rfl ?_
  refine W.widen (k := 31) (n := 2573) (Nat.le_of_ble_eq_true rfl) (Nat.le_of_ble_eq_true rfl) ?_
  exact W.zret C.1.1 C.1.2.1 C.1.2.2.2.1 (by decide) (fun t ht _ => ⟨⟨rfl, a2, g, pg, elo, hi2, hge, by rw [ht]; exact hP4⟩, hS4.F ht⟩) (fun q hq => hS4.2.2 q hq) (show decode q_TJ_image.2.1 34 = .ok (.ireturn, 1) by decide +kernel) (hlocks := C.1.2.2.2.2.1)
