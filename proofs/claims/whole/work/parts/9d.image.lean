/-! image(boolean), the machine's side -/
set_option maxHeartbeats 400000 in
theorem Met_im {sh : Shp} {hp : HP} {v : Int32} {Post : Array Value → State → Outcome → State → Prop} {mc ms : Nat} (l : Launch) (D : va_G) (cy : ClassId × ClassId) (ad : Nat → Nat) (ct sz : Nat)
    (h : ∀ (p : Program) (e : Env) (s : State) (m : MethodId) (args : Array Value) (below : List Frame) (meth : Method) (c : Code), s.heap.size = sz → FxC q_TJ_image sh p s m args meth c D cy ad ct → ∀ ls : Array Slot, lv_has ls 2 [(0, .ref (ad 0)), (1, .int v)] → va_P D vwCl (wl cy sh ad hp) s.heap → W p l e (rmK 4 mc ms) s m args below meth c s.heap [] 0 0 (MQ below Post args s mc ms (AA sh ad s.heap.size)) (F0 m 0 ls [])) : Met l q_TJ_image.1 (wsM q_TJ_image) (rmK 4 mc ms) (va_Pc [.ref (ad 0), .int v] (PreX D cy sh ad ct hp sz)) Post mc ms (AA sh ad sz) := by
  refine Met.ofW (cc := q_TJ_image.2.1) (maxL := 2) (ret := some .boolean) (by decide +kernel) rfl ?_
  intro p e s m args below meth c s₁ B hml hv
  obtain ⟨rfl, h1, h2, h3, h4, h5, h6⟩ := hv
  have hts : ∀ w ∈ wsM q_TJ_image, w.before ([.ref (ad 0), .int v] : List Value).toArray s = true := atoms_spec (ws := wsM q_TJ_image) B.pre
  have hown : s.vm.findClass (nmC q_TJ_image.2.2.2.2) = some m.cls := findClass_of_methodNamed B.named
  have hl := lv_entry ([.ref (ad 0), .int v]) (n := 2) (Nat.le_of_ble_eq_true rfl)
  rw [lg_entry_eq]
  subst h1
  exact h p e s m _ below meth c rfl ⟨⟨B.exec, B.bytes, hml, B.returns, B.notSynchronized, hown, hts⟩, h3, h4, h5, h6⟩ _ hl h2
section IM
variable {p : Program} {l : Launch} {e : Env} {R : Room} {s : State} {m : MethodId} {args : Array Value} {below : List Frame} {meth : Method} {c : Code} {D : va_G} {cy : ClassId × ClassId} {ct : Nat} {H : Heap} {locs : List Loc} {cells slots : Nat} {Q : State → Prop} {ls : Array Slot} {pc : Nat} {ad ad0 : Nat → Nat} {hp : HP} {sh sh0 : Shp}
set_option maxHeartbeats 400000 in
theorem im_kept (C : FxC q_TJ_image sh0 p s m args meth c D cy ad0 ct) (hk0 : isK sh 0 8) (hP : va_P D vwCl (wl cy sh ad hp) H) {st : List Value} {k : Nat} (hl : ls[0]? = some (.val (.ref (ad 0)))) (hd0 : decode q_TJ_image.2.1 pc = .ok (.aload_n 0, 1)) (hd1 : decode q_TJ_image.2.1 (pc + 1) = .ok (.getfield 375, 3)) (hk : pc + 1 + 3 = k) (kk : W p l e R s m args below meth c H locs cells slots Q (F0 m k ls (sh.2.2.2 :: st))) : W p l e R s m args below meth c H locs cells slots Q (F0 m pc ls st) := by
  subst hk
  refine lv_aload_n C.1.1 C.1.2.1 hd0 rfl hl ?_
  exact va_get (v := sh.2.2.2) C.1.1 C.1.2.1 C.1.2.2.2.2.2.2 (fun w hw => List.mem_cons_of_mem _ (kd_ws (k := 8) (by decide) w hw)) C.1.2.2.2.2.2.1 C.2.1 hP 0 (cE_obj hk0 (by decide)) (kd_cl (by decide)) 1 (by decide) (C.1.2.2.2.2.2.2 _ (List.mem_cons_of_mem _ (ft_link (o := 8) (k := 375) (a := 8) (b := 1) (by decide +kernel) (by decide)))) (fun _ hx => hx) (by rw [fv_get (kd := 8) (k := 1) (by decide)]; simp [fv, hk0.2, offR]) hd1 kk
set_option maxHeartbeats 400000 in
theorem im_now (C : FxC q_TJ_image sh0 p s m args meth c D cy ad0 ct) (hk0 : isK sh 0 8) (hP : va_P D vwCl (wl cy sh ad hp) H) {st : List Value} {k : Nat} (hl : ls[0]? = some (.val (.ref (ad 0)))) (hd0 : decode q_TJ_image.2.1 pc = .ok (.aload_n 0, 1)) (hd1 : decode q_TJ_image.2.1 (pc + 1) = .ok (.getfield 12, 3)) (hk : pc + 1 + 3 = k) (kk : W p l e R s m args below meth c H locs cells slots Q (F0 m k ls (.ref (ad 1) :: st))) : W p l e R s m args below meth c H locs cells slots Q (F0 m pc ls st) := by
  subst hk
  refine lv_aload_n C.1.1 C.1.2.1 hd0 rfl hl ?_
  exact va_get (v := .ref (ad 1)) C.1.1 C.1.2.1 C.1.2.2.2.2.2.2 (fun w hw => List.mem_cons_of_mem _ (kd_ws (k := 8) (by decide) w hw)) C.1.2.2.2.2.2.1 C.2.1 hP 0 (cE_obj hk0 (by decide)) (kd_cl (by decide)) 0 (by decide) (C.1.2.2.2.2.2.2 _ (List.mem_cons_of_mem _ (ft_link (o := 8) (k := 12) (a := 8) (b := 0) (by decide +kernel) (by decide)))) (fun _ hx => hx) (by rw [fv_get (kd := 8) (k := 0) (by decide)]; simp [fv, hk0.2, offR]) hd1 kk
set_option maxHeartbeats 2000000 in
theorem im_copy (C : FxC q_TJ_image sh0 p s m args meth c D cy ad0 ct) (hi : inj sh ad) (hA : ∀ c, c < sh.1 → AA sh0 ad0 s.heap.size (ad c)) (hP : va_P D vwCl (wl cy sh ad hp) H) (hS : va_S (AA sh0 ad0 s.heap.size) s.heap H locs) {g : HP} {c0 v0 : Nat} (hE : Ex 2 q_St_copyFrom sh [.ref c0, .ref v0] hp none g) (hk : isK sh c0 5) (hsz : ls.size = 2) (hd : decode q_TJ_image.2.1 pc = .ok (.invokevirtual 378, 3)) (hR : 3 ≤ R.frames ∧ 120 ≤ R.locals) (hc : cells ≤ R.cells ∧ slots ≤ R.slots) (kk : ∀ (H1 : Heap) (locs1 : List Loc), va_P D vwCl (wl cy sh ad g) H1 → va_S (AA sh0 ad0 s.heap.size) s.heap H1 locs1 → W p l e R s m args below meth c H1 locs1 cells slots Q (F0 m (pc + 3) ls [])) : W p l e R s m args below meth c H locs cells slots Q (F0 m pc ls [.ref (ad v0), .ref (ad c0)]) := by
  have hn : ∀ x, AA sh ad H.size x → AA sh0 ad0 s.heap.size x := fun x hx => hx.elim (fun ⟨c, hc, e⟩ => by rw [e]; exact hA c hc) (fun h => Or.inr (Nat.le_trans hS.1 h))
  have hZ : Zt ct (AA sh ad H.size) s H := ⟨(C.2.2.2.1.1.kept hS.2.1).narrow hn, (C.2.2.2.1.2.kept hS.2.1).narrow hn⟩
  have hrun := X_run (l := l) (e := e) (R := R) (below := below) (meth := meth) (locs := locs) (cells := cells) (slots := slots) (ls := ls) (pc := pc) (As := [.ref v0]) (rest := []) ⟨C.1.1, C.1.2.1, C.1.2.2.1, C.1.2.2.2.2.2.1, C.1.2.2.2.2.2.2⟩ (gw_V (q := q_TJ_image) lk_8_378) lk_8_378.2 C.2.1 hP hi hZ C.2.2.2.2 hE hk (by decide) rfl hsz (Nat.le_of_ble_eq_true rfl) hd ⟨hR.1, Nat.le_trans (Nat.le_of_ble_eq_true rfl) hR.2⟩ hc
  exact callG2 (v := none) (B := fun H1 => va_P D vwCl (wl cy sh ad g) H1) (A1 := AA sh ad H.size) hrun hS (fun x _ h => hn x h) hn (fun H1 locs1 hB hF hS1 => kk H1 locs1 hB hS1)
end IM
set_option maxHeartbeats 2000000 in
/-- nothing was taken: nothing to go back to -/
theorem im_N (l : Launch) (D : va_G) (cy : ClassId × ClassId) (ad : Nat → Nat) (ct sz : Nat) (hp : HP) : Met l q_TJ_image.1 (wsM q_TJ_image) (rmK 4 0 0) (va_Pc [.ref (ad 0), .int 0] (PreX D cy (shTJ .null) ad ct hp sz)) (PostX D cy (shTJ .null) ad ct (some (.int 0)) hp sz) 0 0 (AA (shTJ .null) ad sz) := by
  refine Met_im l D cy ad ct sz (fun p e s m args below meth c hz C ls hl hP => ?_)
  subst hz
  refine lv_iload_n C.1.1 C.1.2.1 (show decode q_TJ_image.2.1 0 = .ok (.iload_n 1, 1) by decide +kernel) rfl (lv_at hl 1 rfl) ?_
  refine lv_if_eq (tgt := 35) C.1.1 C.1.2.1 (show decode q_TJ_image.2.1 1 = .ok (.ifCond .eq 34, 3) by decide +kernel) (by decide) (fun _ => ?_) (fun z => absurd rfl z)
  refine im_kept (k := 39) C ⟨by decide, rfl⟩ hP (lv_at hl 0 rfl) (show decode q_TJ_image.2.1 35 = .ok (.aload_n 0, 1) by decide +kernel) (by decide +kernel) rfl ?_
  refine lv_ifnonnullN C.1.1 C.1.2.1 (show decode q_TJ_image.2.1 39 = .ok (.ifnonnull 5, 3) by decide +kernel) ?_
  refine lv_iconst (v := 0) C.1.1 C.1.2.1 (show decode q_TJ_image.2.1 42 = .ok (.iconst 0, 1) by decide +kernel) rfl ?_
  exact W.zret C.1.1 C.1.2.1 C.1.2.2.2.1 (by decide) (fun t ht _ => ⟨⟨rfl, by rw [ht]; exact hP⟩, va_S.rf.F ht⟩) (fun q hq => absurd hq List.not_mem_nil) (show decode q_TJ_image.2.1 43 = .ok (.ireturn, 1) by decide +kernel) (hlocks := C.1.2.2.2.2.1)
set_option maxHeartbeats 2000000 in
/-- back to the image -/
theorem im_B (l : Launch) (D : va_G) (cy : ClassId × ClassId) (ad : Nat → Nat) (ct sz : Nat) (hp g : HP) (hg : f_St_copyFrom 1 hp 42 = some g) : Met l q_TJ_image.1 (wsM q_TJ_image) (rmK 4 0 0) (va_Pc [.ref (ad 0), .int 0] (PreX D cy (sh73 (.ref (ad 42))) ad ct hp sz)) (PostX D cy (sh73 (.ref (ad 42))) ad ct (some (.int 1)) g sz) 0 0 (AA (sh73 (.ref (ad 42))) ad sz) := by
  refine Met_im l D cy ad ct sz (fun p e s m args below meth c hz C ls hl hP => ?_)
  subst hz
  have hk0 : isK (sh73 (.ref (ad 42))) 0 8 := ⟨Nat.le_of_ble_eq_true rfl, rfl⟩
  refine lv_iload_n C.1.1 C.1.2.1 (show decode q_TJ_image.2.1 0 = .ok (.iload_n 1, 1) by decide +kernel) rfl (lv_at hl 1 rfl) ?_
  refine lv_if_eq (tgt := 35) C.1.1 C.1.2.1 (show decode q_TJ_image.2.1 1 = .ok (.ifCond .eq 34, 3) by decide +kernel) (by decide) (fun _ => ?_) (fun z => absurd rfl z)
  refine im_kept (k := 39) C hk0 hP (lv_at hl 0 rfl) (show decode q_TJ_image.2.1 35 = .ok (.aload_n 0, 1) by decide +kernel) (by decide +kernel) rfl ?_
  refine lv_ifnonnull (x := ad 42) (tgt := 44) C.1.1 C.1.2.1 (show decode q_TJ_image.2.1 39 = .ok (.ifnonnull 5, 3) by decide +kernel) (by decide) ?_
  refine im_now (k := 48) C hk0 hP (lv_at hl 0 rfl) (show decode q_TJ_image.2.1 44 = .ok (.aload_n 0, 1) by decide +kernel) (by decide +kernel) rfl ?_
  refine im_kept (k := 52) C hk0 hP (lv_at hl 0 rfl) (show decode q_TJ_image.2.1 48 = .ok (.aload_n 0, 1) by decide +kernel) (by decide +kernel) rfl ?_
  refine im_copy (v0 := 42) (c0 := 1) C C.2.2.1 (fun c hc => Or.inl ⟨c, hc, rfl⟩) hP va_S.rf (t_St_copyFrom _ 1 (S_St1 _) hp 42 (S_St42 _) g hg) ⟨Nat.le_of_ble_eq_true rfl, rfl⟩ hl.1 (show decode q_TJ_image.2.1 52 = .ok (.invokevirtual 378, 3) by decide +kernel) ⟨Nat.le_of_ble_eq_true rfl, Nat.le_of_ble_eq_true rfl⟩ ⟨Nat.le_of_ble_eq_true rfl, Nat.le_of_ble_eq_true rfl⟩ (fun H1 locs1 hP1 hS1 => ?_)
  refine lv_iconst (v := 1) C.1.1 C.1.2.1 (show decode q_TJ_image.2.1 55 = .ok (.iconst 1, 1) by decide +kernel) rfl ?_
  exact W.zret C.1.1 C.1.2.1 C.1.2.2.2.1 (by decide) (fun t ht _ => ⟨⟨rfl, by rw [ht]; exact hP1⟩, hS1.F ht⟩) (fun q hq => hS1.2.2 q hq) (show decode q_TJ_image.2.1 56 = .ok (.ireturn, 1) by decide +kernel) (hlocks := C.1.2.2.2.2.1)
set_option maxHeartbeats 2000000 in
/-- the image is taken again -/
theorem im_T1 (l : Launch) (D : va_G) (cy : ClassId × ClassId) (ad : Nat → Nat) (ct sz : Nat) (hp g : HP) (v : Int32) (hv : ¬ v = 0) (hg : f_St_copyFrom 42 hp 1 = some g) : Met l q_TJ_image.1 (wsM q_TJ_image) (rmK 4 0 0) (va_Pc [.ref (ad 0), .int v] (PreX D cy (sh73 (.ref (ad 42))) ad ct hp sz)) (PostX D cy (sh73 (.ref (ad 42))) ad ct (some (.int 1)) g sz) 0 0 (AA (sh73 (.ref (ad 42))) ad sz) := by
  refine Met_im l D cy ad ct sz (fun p e s m args below meth c hz C ls hl hP => ?_)
  subst hz
  have hk0 : isK (sh73 (.ref (ad 42))) 0 8 := ⟨Nat.le_of_ble_eq_true rfl, rfl⟩
  refine lv_iload_n C.1.1 C.1.2.1 (show decode q_TJ_image.2.1 0 = .ok (.iload_n 1, 1) by decide +kernel) rfl (lv_at hl 1 rfl) ?_
  refine lv_if_eq (tgt := 35) C.1.1 C.1.2.1 (show decode q_TJ_image.2.1 1 = .ok (.ifCond .eq 34, 3) by decide +kernel) (by decide) (fun z => absurd z hv) (fun _ => ?_)
  refine im_kept (k := 8) C hk0 hP (lv_at hl 0 rfl) (show decode q_TJ_image.2.1 4 = .ok (.aload_n 0, 1) by decide +kernel) (by decide +kernel) rfl ?_
  refine lv_ifnonnull (x := ad 42) (tgt := 22) C.1.1 C.1.2.1 (show decode q_TJ_image.2.1 8 = .ok (.ifnonnull 14, 3) by decide +kernel) (by decide) ?_
  refine im_kept (k := 26) C hk0 hP (lv_at hl 0 rfl) (show decode q_TJ_image.2.1 22 = .ok (.aload_n 0, 1) by decide +kernel) (by decide +kernel) rfl ?_
  refine im_now (k := 30) C hk0 hP (lv_at hl 0 rfl) (show decode q_TJ_image.2.1 26 = .ok (.aload_n 0, 1) by decide +kernel) (by decide +kernel) rfl ?_
  refine im_copy (v0 := 1) (c0 := 42) C C.2.2.1 (fun c hc => Or.inl ⟨c, hc, rfl⟩) hP va_S.rf (t_St_copyFrom _ 42 (S_St42 _) hp 1 (S_St1 _) g hg) ⟨Nat.le_of_ble_eq_true rfl, rfl⟩ hl.1 (show decode q_TJ_image.2.1 30 = .ok (.invokevirtual 378, 3) by decide +kernel) ⟨Nat.le_of_ble_eq_true rfl, Nat.le_of_ble_eq_true rfl⟩ ⟨Nat.le_of_ble_eq_true rfl, Nat.le_of_ble_eq_true rfl⟩ (fun H1 locs1 hP1 hS1 => ?_)
  refine lv_iconst (v := 1) C.1.1 C.1.2.1 (show decode q_TJ_image.2.1 33 = .ok (.iconst 1, 1) by decide +kernel) rfl ?_
  exact W.zret C.1.1 C.1.2.1 C.1.2.2.2.1 (by decide) (fun t ht _ => ⟨⟨rfl, by rw [ht]; exact hP1⟩, hS1.F ht⟩) (fun q hq => hS1.2.2 q hq) (show decode q_TJ_image.2.1 34 = .ok (.ireturn, 1) by decide +kernel) (hlocks := C.1.2.2.2.2.1)
