/-! TimedJoinModel() -/
def PrN (N : Nat) (hp : HP) : Prop := hp.1 1 0 = 1 ∧ hp.1 1 1 = 2044 ∧ (∀ j, 2 ≤ j → j < 4064 → hp.1 1 j = 0) ∧ (∀ j, j < N → hp.1 1 (4064 + j) = nI (lz j)) ∧ ∀ c, c ≠ 1 → hp.1 c = fun _ => 0
/-- a fresh reference -/
def PrM (hp : HP) : Prop := PrN 36 hp
set_option maxHeartbeats 400000 in
theorem isK_Mo : isK shMo 0 9 := ⟨by decide, rfl⟩
set_option maxHeartbeats 400000 in
theorem isA_Mo1 : isA shMo 1 10 4100 := ⟨by decide, rfl, rfl⟩
section MO
variable {p : Program} {l : Launch} {e : Env} {R : Room} {s : State} {m : MethodId} {args : Array Value} {below : List Frame} {meth : Method} {c : Code} {D : va_G} {cy : ClassId × ClassId} {ct h0 : Nat} {H : Heap} {locs : List Loc} {cells slots : Nat} {Q : State → Prop} {ls : Array Slot} {pc : Nat} {ad : Nat → Nat} {hp : HP}
def MoW (D : va_G) (cy : ClassId × ClassId) (s : State) (h0 : Nat) (ad : Nat → Nat) (hp : HP) (H : Heap) (locs : List Loc) : Prop := va_P D vwCl (wl cy shMo ad hp) H ∧ va_S (A1 h0 s.heap.size) s.heap H locs
set_option maxHeartbeats 400000 in
theorem mo_getw (C : KC q_Mo_init p s m args meth c D cy ct h0) (h00 : ad 0 = h0) (hw : MoW D cy s h0 ad hp H locs) {st : List Value} {k : Nat} (hl : ls[0]? = some (.val (.ref h0))) (hd0 : decode q_Mo_init.2.1 pc = .ok (.aload_n 0, 1)) (hd1 : decode q_Mo_init.2.1 (pc + 1) = .ok (.getfield 9, 3)) (hk : pc + 1 + 3 = k) (kk : W p l e R s m args below meth c H locs cells slots Q (F0 m k ls (.ref (ad 1) :: st))) : W p l e R s m args below meth c H locs cells slots Q (F0 m pc ls st) := by
  subst hk
  refine lv_aload_n C.1.1 C.1.2.1 hd0 rfl hl ?_
  rw [← h00]
  exact va_get (v := .ref (ad 1)) C.1.1 C.1.2.1 C.1.2.2.2.2.2.2 (fun w hw => List.mem_cons_of_mem _ (kd_ws (k := 9) (by decide) w hw)) C.1.2.2.2.2.2.1 C.2.1 hw.1 0 (cE_obj isK_Mo (by decide)) (kd_cl (by decide)) 0 (by decide) (C.1.2.2.2.2.2.2 _ (List.mem_cons_of_mem _ (ft_link (o := 9) (k := 9) (a := 9) (b := 0) (by decide +kernel) (by decide)))) (fun _ hx => hx) (fv_get (kd := 9) (k := 0) (by decide)) hd1 kk
set_option maxHeartbeats 400000 in
theorem mo_put (C : KC q_Mo_init p s m args meth c D cy ct h0) (hi : inj shMo ad) (hA : ∀ c, c < 11 → A1 h0 s.heap.size (ad c)) (hw : MoW D cy s h0 ad hp H locs) {x : Int32} {j : Nat} (hj : j < 4100) {st : List Value} {i : Int32} (hie : i = nI j) (hd : decode q_Mo_init.2.1 pc = .ok (.iastore, 1)) (kk : ∀ (H1 : Heap) (locs1 : List Loc), MoW D cy s h0 ad (upI hp 1 j x) H1 locs1 → W p l e R s m args below meth c H1 locs1 cells slots Q (F0 m (pc + 1) ls st)) : W p l e R s m args below meth c H locs cells slots Q (F0 m pc ls (.int x :: .int i :: .ref (ad 1) :: st)) := by
  subst hie
  refine va_iast C.1.1 C.1.2.1 C.2.1 hw.1 (wl_DA hi hA) hw.2 1 0 (cE_ints isA_Mo1) rfl (vp_in_nI hj (by decide)) hd (fun H1 locs1 h1 h2 h3 => kk H1 locs1 ⟨?_, h3⟩)
  rw [show (nI j).toNatClampNeg = j from ix_nI (by omega), wl_setA isA_Mo1] at h1
  exact h1
set_option maxHeartbeats 400000 in
theorem PrN.up {N : Nat} {hp : HP} (h : PrN N hp) {x : Int32} (hN : N < 36) (hx : x = nI (lz N)) : PrN (N + 1) (upI hp 1 (4064 + N) x) := by
  obtain ⟨a, b, cc, d, f⟩ := h
  refine ⟨by rw [upI_s, if_neg (by omega)]; exact a, by rw [upI_s, if_neg (by omega)]; exact b, fun j j2 j4 => by rw [upI_s, if_neg (by omega)]; exact cc j j2 j4, fun j hj => ?_, fun c hc => by rw [upI_at _ _ _ _ hc]; exact f c hc⟩
  rw [upI_s]
  by_cases z : j = N
  · rw [if_pos (by omega), hx, z]
  · rw [if_neg (by omega)]; exact d j (by omega)
set_option maxHeartbeats 4000000 in
theorem mo_in (C : KC q_Mo_init p s m args meth c D cy ct h0) (h00 : ad 0 = h0) (hi : inj shMo ad) (hA : ∀ c, c < 11 → A1 h0 s.heap.size (ad c)) {i : Nat} (hi6 : i < 6) (kk : ∀ (hp : HP) (H : Heap) (locs : List Loc) (ls : Array Slot), PrN (6 * i + 6) hp → MoW D cy s h0 ad hp H locs → lv_has ls 3 [(0, .ref h0), (1, .int (nI i))] → W p l e R s m args below meth c H locs cells slots Q (F0 m 157 ls [])) : ∀ (r k : Nat), k + r = 6 → ∀ (hp : HP) (H : Heap) (locs : List Loc) (ls : Array Slot), PrN (6 * i + k) hp → MoW D cy s h0 ad hp H locs → lv_has ls 3 [(0, .ref h0), (1, .int (nI i)), (2, .int (nI k))] → W p l e R s m args below meth c H locs cells slots Q (F0 m 117 ls []) := by
  intro r
  induction r with
  | zero =>
    intro k hk hp H locs ls hI hw hl
    have hk : k = 6 := by omega
    subst hk
    refine lv_iload_n C.1.1 C.1.2.1 (show decode q_Mo_init.2.1 117 = .ok (.iload_n 2, 1) by decide +kernel) rfl (lv_at hl 2 rfl) ?_
    refine K_push (q := q_Mo_init) (n := 6) (len := 2) C.1.1 C.1.2.1 (by decide +kernel) ?_
    refine lv_icmp_ge (tgt := 157) C.1.1 C.1.2.1 (show decode q_Mo_init.2.1 120 = .ok (.if_icmp .ge 37, 3) by decide +kernel) (by decide) (fun _ => ?_) (fun z => absurd (show (6 : Int32) ≤ nI 6 from nle 6) z)
    exact kk hp H locs ls hI hw (lv_sub hl [0, 1] rfl)
  | succ r ih =>
    intro k hk hp H locs ls hI hw hl
    refine lv_iload_n C.1.1 C.1.2.1 (show decode q_Mo_init.2.1 117 = .ok (.iload_n 2, 1) by decide +kernel) rfl (lv_at hl 2 rfl) ?_
    refine K_push (q := q_Mo_init) (n := 6) (len := 2) C.1.1 C.1.2.1 (by decide +kernel) ?_
    refine lv_icmp_ge (tgt := 157) C.1.1 C.1.2.1 (show decode q_Mo_init.2.1 120 = .ok (.if_icmp .ge 37, 3) by decide +kernel) (by decide) (fun z => absurd z (show ¬ (6 : Int32) ≤ nI k from nI_ge (b := 6) (by omega) (by decide))) (fun _ => ?_)
    refine mo_getw (k := 127) C h00 hw (lv_at hl 0 rfl) (show decode q_Mo_init.2.1 123 = .ok (.aload_n 0, 1) by decide +kernel) (by decide +kernel) rfl ?_
    refine K_push (q := q_Mo_init) (n := 4064) (len := 3) C.1.1 C.1.2.1 (by decide +kernel) ?_
    refine K_push (q := q_Mo_init) (n := 6) (len := 2) C.1.1 C.1.2.1 (by decide +kernel) ?_
    refine lv_iload_n C.1.1 C.1.2.1 (show decode q_Mo_init.2.1 132 = .ok (.iload_n 1, 1) by decide +kernel) rfl (lv_at hl 1 rfl) ?_
    refine lv_imul C.1.1 C.1.2.1 (show decode q_Mo_init.2.1 133 = .ok (.imul, 1) by decide +kernel) ?_
    refine lv_iadd C.1.1 C.1.2.1 (show decode q_Mo_init.2.1 134 = .ok (.iadd, 1) by decide +kernel) ?_
    refine lv_iload_n C.1.1 C.1.2.1 (show decode q_Mo_init.2.1 135 = .ok (.iload_n 2, 1) by decide +kernel) rfl (lv_at hl 2 rfl) ?_
    refine lv_iadd C.1.1 C.1.2.1 (show decode q_Mo_init.2.1 136 = .ok (.iadd, 1) by decide +kernel) ?_
    have hix : (4064 : Int32) + 6 * nI i + nI k = nI (4064 + (6 * i + k)) := by
      rw [show (4064 : Int32) + 6 * nI i = nI (4064 + 6 * i) from lin1 4064 6 i, nI_add, Nat.add_assoc]
    refine lv_iload_n C.1.1 C.1.2.1 (show decode q_Mo_init.2.1 137 = .ok (.iload_n 1, 1) by decide +kernel) rfl (lv_at hl 1 rfl) ?_
    refine lv_iload_n C.1.1 C.1.2.1 (show decode q_Mo_init.2.1 138 = .ok (.iload_n 2, 1) by decide +kernel) rfl (lv_at hl 2 rfl) ?_
    have goal : ∀ x : Int32, x = nI (lz (6 * i + k)) → W p l e R s m args below meth c H locs cells slots Q (F0 m 150 ls [.int x, .int ((4064 : Int32) + 6 * nI i + nI k), .ref (ad 1)]) := fun x hx => by
      refine mo_put C hi hA hw (show 4064 + (6 * i + k) < 4100 by omega) hix (show decode q_Mo_init.2.1 150 = .ok (.iastore, 1) by decide +kernel) (fun H1 locs1 hw1 => ?_)
      refine lv_iinc (v := nI (k + 1)) (lv' := [(2, .int (nI (k + 1))), (0, .ref h0), (1, .int (nI i))]) C.1.1 C.1.2.1 (show decode q_Mo_init.2.1 151 = .ok (.iinc 2 1, 3) by decide +kernel) hl (k := 2) rfl (nI_1 k) (by decide) rfl (fun ls1 hl1 => ?_)
      refine lv_goto (tgt := 117) C.1.1 C.1.2.1 (show decode q_Mo_init.2.1 154 = .ok (.goto (-37), 3) by decide +kernel) (by decide) ?_
      exact ih (k + 1) (by omega) _ H1 locs1 ls1 (by rw [← Nat.add_assoc]; exact hI.up (by omega) hx) hw1 (lv_sub hl1 [1, 2, 0] rfl)
    refine lv_icmp_ne (tgt := 147) C.1.1 C.1.2.1 (show decode q_Mo_init.2.1 139 = .ok (.if_icmp .ne 8, 3) by decide +kernel) (by decide) (fun z => ?_) (fun z => ?_)
    · refine K_push (q := q_Mo_init) (n := 8191) (len := 3) C.1.1 C.1.2.1 (by decide +kernel) ?_
      have : i ≠ k := fun y => z (by rw [y])
      exact goal 8191 (by unfold lz; rw [if_neg (by omega)]; rfl)
    · refine K_push (q := q_Mo_init) (n := 64) (len := 2) C.1.1 C.1.2.1 (by decide +kernel) ?_
      refine lv_goto (tgt := 150) C.1.1 C.1.2.1 (show decode q_Mo_init.2.1 144 = .ok (.goto 6, 3) by decide +kernel) (by decide) ?_
      have : i = k := (nI_eq (by omega) (by omega)).mp z
      exact goal 64 (by unfold lz; rw [if_pos (by omega)]; rfl)
set_option maxHeartbeats 4000000 in
theorem mo_out (C : KC q_Mo_init p s m args meth c D cy ct h0) (h00 : ad 0 = h0) (hi : inj shMo ad) (hA : ∀ c, c < 11 → A1 h0 s.heap.size (ad c)) (kk : ∀ (hp : HP) (H : Heap) (locs : List Loc) (ls : Array Slot), PrN 36 hp → MoW D cy s h0 ad hp H locs → W p l e R s m args below meth c H locs cells slots Q (F0 m 163 ls [])) : ∀ (r i : Nat), i + r = 6 → ∀ (hp : HP) (H : Heap) (locs : List Loc) (ls : Array Slot), PrN (6 * i) hp → MoW D cy s h0 ad hp H locs → lv_has ls 3 [(0, .ref h0), (1, .int (nI i))] → W p l e R s m args below meth c H locs cells slots Q (F0 m 109 ls []) := by
  intro r
  induction r with
  | zero =>
    intro i hk hp H locs ls hI hw hl
    have hk : i = 6 := by omega
    subst hk
    refine lv_iload_n C.1.1 C.1.2.1 (show decode q_Mo_init.2.1 109 = .ok (.iload_n 1, 1) by decide +kernel) rfl (lv_at hl 1 rfl) ?_
    refine K_push (q := q_Mo_init) (n := 6) (len := 2) C.1.1 C.1.2.1 (by decide +kernel) ?_
    refine lv_icmp_ge (tgt := 163) C.1.1 C.1.2.1 (show decode q_Mo_init.2.1 112 = .ok (.if_icmp .ge 51, 3) by decide +kernel) (by decide) (fun _ => ?_) (fun z => absurd (show (6 : Int32) ≤ nI 6 from nle 6) z)
    exact kk hp H locs ls hI hw
  | succ r ih =>
    intro i hk hp H locs ls hI hw hl
    refine lv_iload_n C.1.1 C.1.2.1 (show decode q_Mo_init.2.1 109 = .ok (.iload_n 1, 1) by decide +kernel) rfl (lv_at hl 1 rfl) ?_
    refine K_push (q := q_Mo_init) (n := 6) (len := 2) C.1.1 C.1.2.1 (by decide +kernel) ?_
    refine lv_icmp_ge (tgt := 163) C.1.1 C.1.2.1 (show decode q_Mo_init.2.1 112 = .ok (.if_icmp .ge 51, 3) by decide +kernel) (by decide) (fun z => absurd z (show ¬ (6 : Int32) ≤ nI i from nI_ge (b := 6) (by omega) (by decide))) (fun _ => ?_)
    refine K_push (q := q_Mo_init) (n := 0) (len := 1) C.1.1 C.1.2.1 (by decide +kernel) ?_
    refine lv_istore_n (lv' := [(2, .int 0), (0, .ref h0), (1, .int (nI i))]) C.1.1 C.1.2.1 (show decode q_Mo_init.2.1 116 = .ok (.istore_n 2, 1) by decide +kernel) rfl hl (by decide) rfl (fun ls1 hl1 => ?_)
    refine mo_in C h00 hi hA (i := i) (by omega) (fun hp2 H2 locs2 ls2 hI2 hw2 hl2 => ?_) 6 0 rfl hp H locs ls1 hI hw (lv_sub hl1 [1, 2, 0] rfl)
    refine lv_iinc (v := nI (i + 1)) (lv' := [(1, .int (nI (i + 1))), (0, .ref h0)]) C.1.1 C.1.2.1 (show decode q_Mo_init.2.1 157 = .ok (.iinc 1 1, 3) by decide +kernel) hl2 (k := 1) rfl (nI_1 i) (by decide) rfl (fun ls3 hl3 => ?_)
    refine lv_goto (tgt := 109) C.1.1 C.1.2.1 (show decode q_Mo_init.2.1 160 = .ok (.goto (-51), 3) by decide +kernel) (by decide) ?_
    exact ih (i + 1) (by omega) hp2 H2 locs2 ls3 (by rw [Nat.mul_add]; exact hI2) hw2 (lv_sub hl3 [1, 0] rfl)
end MO
set_option maxHeartbeats 16000000 in
set_option maxRecDepth 20000 in
set_option maxHeartbeats 400000 in
theorem mk_Mo : Mk 1 q_Mo_init [.null, .null, .int 0, .null, .null, .null, .int 0, .null, .null, .int 0, .null, .null, .int 0, .null] shMo PrM 10 9285 := by
  refine Mk.of (by decide +kernel) rfl (Nat.le_of_ble_eq_true rfl) rfl ?_
  intro p l e s m args below meth c D cy ct h0 C ls hl hh
  refine K_begin C hl lkO_9 (by decide +kernel) ⟨Nat.le_of_ble_eq_true rfl, Nat.le_of_ble_eq_true rfl⟩ ?_
  refine K_arrI C hl hh 0 4100 3 9 13 4100 (by decide +kernel) rfl (by decide +kernel) (Nat.le_of_ble_eq_true rfl) ⟨by decide, by decide, by decide⟩ ⟨Nat.le_of_ble_eq_true rfl, Nat.le_of_ble_eq_true rfl⟩ (fun a1 H locs hh => ?_)
  refine K_arrI C hl hh 1 4100 3 13 22 4100 (by decide +kernel) rfl (by decide +kernel) (Nat.le_of_ble_eq_true rfl) ⟨by decide, by decide, by decide⟩ ⟨Nat.le_of_ble_eq_true rfl, Nat.le_of_ble_eq_true rfl⟩ (fun a2 H locs hh => ?_)
  refine K_arrI C hl hh 3 200 3 16 31 200 (by decide +kernel) rfl (by decide +kernel) (Nat.le_of_ble_eq_true rfl) ⟨by decide, by decide, by decide⟩ ⟨Nat.le_of_ble_eq_true rfl, Nat.le_of_ble_eq_true rfl⟩ (fun a3 H locs hh => ?_)
  refine K_arrI C hl hh 4 200 3 19 40 200 (by decide +kernel) rfl (by decide +kernel) (Nat.le_of_ble_eq_true rfl) ⟨by decide, by decide, by decide⟩ ⟨Nat.le_of_ble_eq_true rfl, Nat.le_of_ble_eq_true rfl⟩ (fun a4 H locs hh => ?_)
  refine K_arrI C hl hh 5 200 3 22 49 200 (by decide +kernel) rfl (by decide +kernel) (Nat.le_of_ble_eq_true rfl) ⟨by decide, by decide, by decide⟩ ⟨Nat.le_of_ble_eq_true rfl, Nat.le_of_ble_eq_true rfl⟩ (fun a5 H locs hh => ?_)
  refine K_arrI C hl hh 7 40 2 25 57 40 (by decide +kernel) rfl (by decide +kernel) (Nat.le_of_ble_eq_true rfl) ⟨by decide, by decide, by decide⟩ ⟨Nat.le_of_ble_eq_true rfl, Nat.le_of_ble_eq_true rfl⟩ (fun a6 H locs hh => ?_)
  refine K_arrI C hl hh 8 200 3 28 66 200 (by decide +kernel) rfl (by decide +kernel) (Nat.le_of_ble_eq_true rfl) ⟨by decide, by decide, by decide⟩ ⟨Nat.le_of_ble_eq_true rfl, Nat.le_of_ble_eq_true rfl⟩ (fun a7 H locs hh => ?_)
  refine K_arrI C hl hh 10 40 2 31 74 40 (by decide +kernel) rfl (by decide +kernel) (Nat.le_of_ble_eq_true rfl) ⟨by decide, by decide, by decide⟩ ⟨Nat.le_of_ble_eq_true rfl, Nat.le_of_ble_eq_true rfl⟩ (fun a8 H locs hh => ?_)
  refine K_arrI C hl hh 11 169 3 34 83 169 (by decide +kernel) rfl (by decide +kernel) (Nat.le_of_ble_eq_true rfl) ⟨by decide, by decide, by decide⟩ ⟨Nat.le_of_ble_eq_true rfl, Nat.le_of_ble_eq_true rfl⟩ (fun a9 H locs hh => ?_)
  refine K_arrI C hl hh 13 36 2 37 91 36 (by decide +kernel) rfl (by decide +kernel) (Nat.le_of_ble_eq_true rfl) ⟨by decide, by decide, by decide⟩ ⟨Nat.le_of_ble_eq_true rfl, Nat.le_of_ble_eq_true rfl⟩ (fun a10 H locs hh => ?_)
  obtain ⟨ad, had⟩ : ∃ ad : Nat → Nat, ad = fun c => ([h0, a1, a2, a3, a4, a5, a6, a7, a8, a9, a10] : List Nat).getD c 0 := ⟨_, rfl⟩
  have hP : va_P D vwCl (wl cy shMo ad hp00) H := by rw [had]; exact hh.1
  have hD : va_D (A1 h0 s.heap.size) (wl cy shMo ad hp00) := by rw [had]; exact hh.2.1
  have h00 : ad 0 = h0 := by rw [had]; rfl
  have hS := hh.2.2
  clear had hh
  have hi := (wl_inj hD).1
  have hA : ∀ c, c < 11 → A1 h0 s.heap.size (ad c) := (wl_inj hD).2
  refine mo_getw (k := 95) C h00 ⟨hP, hS⟩ (lv_at hl 0 rfl) (show decode q_Mo_init.2.1 91 = .ok (.aload_n 0, 1) by decide +kernel) (by decide +kernel) rfl ?_
  refine K_push (q := q_Mo_init) (n := 0) (len := 1) C.1.1 C.1.2.1 (by decide +kernel) ?_
  refine K_push (q := q_Mo_init) (n := 1) (len := 1) C.1.1 C.1.2.1 (by decide +kernel) ?_
  refine mo_put (j := 0) C hi hA ⟨hP, hS⟩ (by decide) rfl (show decode q_Mo_init.2.1 97 = .ok (.iastore, 1) by decide +kernel) (fun H1 locs1 hw1 => ?_)
  refine mo_getw (k := 102) C h00 hw1 (lv_at hl 0 rfl) (show decode q_Mo_init.2.1 98 = .ok (.aload_n 0, 1) by decide +kernel) (by decide +kernel) rfl ?_
  refine K_push (q := q_Mo_init) (n := 1) (len := 1) C.1.1 C.1.2.1 (by decide +kernel) ?_
  refine K_push (q := q_Mo_init) (n := 2044) (len := 3) C.1.1 C.1.2.1 (by decide +kernel) ?_
  refine mo_put (j := 1) C hi hA hw1 (by decide) rfl (show decode q_Mo_init.2.1 106 = .ok (.iastore, 1) by decide +kernel) (fun H2 locs2 hw2 => ?_)
  refine K_push (q := q_Mo_init) (n := 0) (len := 1) C.1.1 C.1.2.1 (by decide +kernel) ?_
  refine lv_istore_n (lv' := [(1, .int 0), (0, .ref h0)]) C.1.1 C.1.2.1 (show decode q_Mo_init.2.1 108 = .ok (.istore_n 1, 1) by decide +kernel) rfl hl (by decide) rfl (fun ls1 hl1 => ?_)
  refine mo_out C h00 hi hA (fun hp3 H3 locs3 ls3 hI3 hw3 => ?_) 6 0 rfl _ H2 locs2 ls1 ⟨?_, ?_, fun j j2 j4 => ?_, fun j hj => absurd hj (by omega), fun c hc => ?_⟩ hw2 (lv_sub hl1 [1, 0] rfl)
  · exact K_ret (sh := shMo) (Pr := PrM) C rfl hw3.1 (wl_DA hi hA) hw3.2 hI3 h00 (by decide) (show decode q_Mo_init.2.1 163 = .ok (.return_, 1) by decide +kernel) (Nat.le_of_ble_eq_true rfl) (Nat.le_of_ble_eq_true rfl)
  · rw [upI_s, if_neg (by decide), upI_s, if_pos rfl]
  · rw [upI_s, if_pos rfl]
  · rw [upI_s, if_neg (by omega), upI_s, if_neg (by omega)]; rfl
  · rw [upI_at _ _ _ _ hc, upI_at _ _ _ _ hc]; rfl
