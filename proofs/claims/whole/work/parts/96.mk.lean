/-! constructors: the world grows -/
def A1 (h0 sz : Nat) : Nat → Prop := fun q => q = h0 ∨ sz ≤ q
def rmK (d mc ms : Nat) : Room := { frames := d, cells := mc, slots := ms, locals := 40 * d }
def PreM (D : va_G) (cy : ClassId × ClassId) (ct h0 kd : Nat) (fs : List Value) (sz : Nat) (U : State) : Prop := U.heap.size = sz ∧ va_P D vwCl [(h0, .inr (kd, fs))] U.heap ∧ va_K D vwCl (tys2 cy) U ∧ Zt ct (A1 h0 sz) U U.heap ∧ NW U
def Built (D : va_G) (cy : ClassId × ClassId) (sh : Shp) (Pr : HP → Prop) (h0 sz : Nat) (H : Heap) : Prop := ∃ (ad : Nat → Nat) (hp : HP), Pr hp ∧ ad 0 = h0 ∧ inj sh ad ∧ (∀ c, 0 < c → c < sh.1 → sz ≤ ad c) ∧ va_P D vwCl (wl cy sh ad hp) H
def PostM (D : va_G) (cy : ClassId × ClassId) (sh : Shp) (Pr : HP → Prop) (h0 sz : Nat) : Array Value → State → Outcome → State → Prop := fun _ st oc t => (oc = .returned none ∧ Built D cy sh Pr h0 sz t.heap) ∧ va_F (A1 h0 sz) st t
/-- a constructor's contract: of the bare object it makes the world sh -/
def Mk (d : Nat) (q : MI) (fs : List Value) (sh : Shp) (Pr : HP → Prop) (mc ms : Nat) : Prop := ∀ (l : Launch) (D : va_G) (cy : ClassId × ClassId) (ct sz h0 : Nat), Met l q.1 (wsM q) (rmK d mc ms) (va_Pc [.ref h0] (PreM D cy ct h0 q.2.2.2.2 fs sz)) (PostM D cy sh Pr h0 sz) mc ms (A1 h0 sz)
set_option maxHeartbeats 400000 in
theorem preM_blind {as : List Value} {D : va_G} {cy : ClassId × ClassId} {ct h0 kd : Nat} {fs : List Value} {sz : Nat} : FrameBlind (va_Pc as (PreM D cy ct h0 kd fs sz)) := fun a U g mk q => by
  obtain ⟨q0, q1, q2, q3, q5, q6⟩ := q
  exact ⟨q0, q1, q2, va_K.moved (u := U) (U := U.calling g mk a) (Vm.Alike.refl U.vm) q3, ⟨va_Z.moved (u := U) (U := U.calling g mk a) (Vm.Alike.refl U.vm) q5.1, va_T.moved (u := U) (U := U.calling g mk a) (Vm.Alike.refl U.vm) q5.2⟩, fun w hw => va_Nw.same rfl (u := U) (U := U.calling g mk a) rfl (q6 w hw)⟩
def KC (q : MI) (p : Program) (s : State) (m : MethodId) (args : Array Value) (meth : Method) (c : Code) (D : va_G) (cy : ClassId × ClassId) (ct h0 : Nat) : Prop := (p.tables.exec = Jvm.exec ∧ c.code = q.2.1 ∧ c.maxLocals = q.2.2.1 ∧ meth.sig.returnType = q.2.2.2.1 ∧ meth.locks = false ∧ s.vm.findClass (nmC q.2.2.2.2) = some m.cls ∧ ∀ w ∈ wsM q, w.before args s = true) ∧ va_K D vwCl (tys2 cy) s ∧ Zt ct (A1 h0 s.heap.size) s s.heap ∧ NW s ∧ meth.name = "<init>"
def KH (D : va_G) (s : State) (h0 kd : Nat) (fs : List Value) (rest : va_W) (H : Heap) (locs : List Loc) : Prop := va_P D vwCl ((h0, .inr (kd, fs)) :: rest) H ∧ va_D (A1 h0 s.heap.size) ((h0, .inr (kd, fs)) :: rest) ∧ va_S (A1 h0 s.heap.size) s.heap H locs
set_option maxHeartbeats 400000 in
theorem D_one {A : Nat → Prop} {a : Nat} {e : va_E} (h : A a) : va_D A [(a, e)] := by
  refine ⟨fun i j p q hp hq _ => ?_, fun k q hq => ?_⟩
  · have h1 : i < 1 := (List.getElem?_eq_some_iff.mp hp).1
    have h2 : j < 1 := (List.getElem?_eq_some_iff.mp hq).1
    omega
  · have h1 : k < 1 := (List.getElem?_eq_some_iff.mp hq).1
    rw [show k = 0 by omega] at hq
    cases hq
    exact h
set_option maxHeartbeats 400000 in
theorem D_app {A : Nat → Prop} {w1 w2 : va_W} (h1 : va_D A w1) (h2 : va_D A w2) (hx : ∀ (i j : Nat) (p q : Nat × va_E), w1[i]? = some p → w2[j]? = some q → p.1 ≠ q.1) : va_D A (w1 ++ w2) := by
  refine ⟨fun i j p q hp hq e => ?_, fun k q hq => ?_⟩
  · by_cases hi : i < w1.length
    · rw [List.getElem?_append_left hi] at hp
      by_cases hj : j < w1.length
      · rw [List.getElem?_append_left hj] at hq
        exact h1.1 i j p q hp hq e
      · rw [List.getElem?_append_right (by omega)] at hq
        exact absurd e (hx _ _ _ _ hp hq)
    · rw [List.getElem?_append_right (by omega)] at hp
      by_cases hj : j < w1.length
      · rw [List.getElem?_append_left hj] at hq
        exact absurd e.symm (hx _ _ _ _ hq hp)
      · rw [List.getElem?_append_right (by omega)] at hq
        have := h2.1 _ _ p q hp hq e
        omega
  · by_cases hk : k < w1.length
    · rw [List.getElem?_append_left hk] at hq
      exact h1.2 k q hq
    · rw [List.getElem?_append_right (by omega)] at hq
      exact h2.2 _ q hq
set_option maxHeartbeats 400000 in
theorem D_left {A : Nat → Prop} {w1 w2 : va_W} (h : va_D A (w1 ++ w2)) : va_D A w1 :=
  ⟨fun i j p q hp hq e => h.1 i j p q (by rw [List.getElem?_append_left (List.getElem?_eq_some_iff.mp hp).1]; exact hp) (by rw [List.getElem?_append_left (List.getElem?_eq_some_iff.mp hq).1]; exact hq) e, fun k q hq => h.2 k q (by rw [List.getElem?_append_left (List.getElem?_eq_some_iff.mp hq).1]; exact hq)⟩
set_option maxHeartbeats 400000 in
theorem P_left {D : va_G} {cl : List vw_C} {w1 w2 : va_W} {H : Heap} (h : va_P D cl (w1 ++ w2) H) : va_P D cl w1 H := fun k q hk => h k q (by rw [List.getElem?_append_left (List.getElem?_eq_some_iff.mp hk).1]; exact hk)
set_option maxHeartbeats 400000 in
theorem P_right {D : va_G} {cl : List vw_C} {w1 w2 : va_W} {H : Heap} (h : va_P D cl (w1 ++ w2) H) : va_P D cl w2 H := fun k q hk => h (w1.length + k) q (by rw [List.getElem?_append_right (by omega), show w1.length + k - w1.length = k by omega]; exact hk)
set_option maxHeartbeats 400000 in
/-- addresses that are apart -/
theorem wl_inj {cy : ClassId × ClassId} {sh : Shp} {ad : Nat → Nat} {hp : HP} {A : Nat → Prop} (h : va_D A (wl cy sh ad hp)) : inj sh ad ∧ ∀ c, c < sh.1 → A (ad c) :=
  ⟨fun i j hi hj e => h.1 i j _ _ (wl_get hi) (wl_get hj) e, fun c hc => h.2 c _ (wl_get hc)⟩
set_option maxHeartbeats 400000 in
theorem wl_DA {cy : ClassId × ClassId} {sh : Shp} {ad : Nat → Nat} {hp : HP} {A : Nat → Prop} (h : inj sh ad) (hA : ∀ c, c < sh.1 → A (ad c)) : va_D A (wl cy sh ad hp) := by
  refine ⟨fun i j p q hp hq e => ?_, fun k q hq => ?_⟩
  · obtain ⟨h1, rfl⟩ := wl_at hp
    obtain ⟨h2, rfl⟩ := wl_at hq
    exact h i j h1 h2 e
  · obtain ⟨h1, rfl⟩ := wl_at hq
    exact hA k h1
set_option maxHeartbeats 400000 in
theorem wl_lt {D : va_G} {cy : ClassId × ClassId} {sh : Shp} {ad : Nat → Nat} {hp : HP} {H : Heap} (h : va_P D vwCl (wl cy sh ad hp) H) {c : Nat} (hc : c < sh.1) : ad c < H.size := (h c _ (wl_get hc)).lt
set_option maxHeartbeats 400000 in
theorem wl_kept {D : va_G} {cy : ClassId × ClassId} {sh : Shp} {ad : Nat → Nat} {hp : HP} {H H1 : Heap} (h : va_P D vwCl (wl cy sh ad hp) H) (e : ∀ c, c < sh.1 → H1[ad c]? = H[ad c]?) : va_P D vwCl (wl cy sh ad hp) H1 := h.kept (fun k q hq => by
  obtain ⟨h1, rfl⟩ := wl_at hq
  exact e k h1)
set_option maxHeartbeats 400000 in
theorem Mk.of {d : Nat} {q : MI} {fs : List Value} {sh : Shp} {Pr : HP → Prop} {mc ms : Nat} (hy : plainName q.1.cls = true) (hcls : q.1.cls = nmC q.2.2.2.2) (hn : 1 ≤ q.2.2.1) (hnm : q.1.name = "<init>")
    (h : ∀ (p : Program) (l : Launch) (e : Env) (s : State) (m : MethodId) (args : Array Value) (below : List Frame) (meth : Method) (c : Code) (D : va_G) (cy : ClassId × ClassId) (ct h0 : Nat), KC q p s m args meth c D cy ct h0 → ∀ ls : Array Slot, lv_has ls q.2.2.1 [(0, .ref h0)] → KH D s h0 q.2.2.2.2 fs [] s.heap [] → W p l e (rmK d mc ms) s m args below meth c s.heap [] 0 0 (MQ below (PostM D cy sh Pr h0 s.heap.size) args s mc ms (A1 h0 s.heap.size)) (F0 m 0 ls [])) : Mk d q fs sh Pr mc ms := by
  intro l D cy ct sz h0
  refine Met.ofW (cc := q.2.1) (maxL := q.2.2.1) (ret := q.2.2.2.1) hy rfl ?_
  intro p e s m args below meth c s₁ B hml hv
  obtain ⟨rfl, h1, h2, h3, h5, h6⟩ := hv
  have hts : ∀ w ∈ wsM q, w.before ([.ref h0] : List Value).toArray s = true := atoms_spec (ws := wsM q) B.pre
  have hown : s.vm.findClass (nmC q.2.2.2.2) = some m.cls := by rw [← hcls]; exact findClass_of_methodNamed B.named
  have hin : meth.name = "<init>" := by rw [← hnm]; exact (name_of_methodNamed B.named B.method).1
  have hl := lv_entry ([.ref h0]) (n := q.2.2.1) (show (lg_sl [Value.ref h0]).length ≤ q.2.2.1 from hn)
  rw [lg_entry_eq]
  subst h1
  exact h p l e s m _ below meth c D cy ct h0 ⟨⟨B.exec, B.bytes, hml, B.returns, B.notSynchronized, hown, hts⟩, h3, h5, h6, hin⟩ _ hl ⟨h2, D_one (Or.inl rfl), va_S.rf⟩
set_option maxHeartbeats 400000 in
theorem w_oi : Cond.instanceMethod Lib.objectInit ∈ GW := gwI 98 (by decide +kernel)
set_option maxHeartbeats 400000 in
theorem w_oc : Cond.code Lib.objectInit ⟨#[0xb1]⟩ 1 none ∈ GW := gwI 99 (by decide +kernel)
set_option maxHeartbeats 400000 in
theorem w_aI : Cond.arrayClass .int ∈ GW := gwI 141 (by decide +kernel)
set_option maxHeartbeats 400000 in
theorem w_aJ : Cond.arrayClass .long ∈ GW := gwI 289 (by decide +kernel)
section CG2
variable {p : Program} {l : Launch} {e : Env} {R : Room} {s : State} {m : MethodId} {args : Array Value} {below : List Frame} {meth : Method} {c : Code} {H : Heap} {locs : List Loc} {cells slots mc ms : Nat} {Q : State → Prop}
set_option maxHeartbeats 400000 in
theorem callG2 {pc : Nat} {ls : Array Slot} {rest st0 : List Value} {A0 A1 : Nat → Prop} {H0 : Heap} {free : Addr → Prop} {v : Option Value} {B : Heap → Prop} (hr : va_Run p l e R s m args below meth c H locs cells slots mc ms (F0 m pc ls st0) rest (fun st oc t => (oc = .returned v ∧ B t.heap) ∧ va_F A1 st t) free) (hS : va_S A0 H0 H locs) (hA : ∀ q, q < H.size → A1 q → A0 q) (hf : ∀ q, free q → A0 q)
    (kk : ∀ (H1 : Heap) (locs1 : List Loc), B H1 → va_S A1 H H1 [] → va_S A0 H0 H1 locs1 → W p l e R s m args below meth c H1 locs1 (cells + mc) (slots + ms) Q (F0 m (pc + 3) ls (v.toList ++ rest))) : W p l e R s m args below meth c H locs cells slots Q (F0 m pc ls st0) := by
  intro T hT X
  obtain ⟨v', st₀, t, T', L, h0, X', hL, e1, e2, ⟨⟨hv, hb⟩, hz, hk⟩, st⟩ := hr T hT X
  cases hv
  rw [h0] at hz hk
  obtain ⟨t2, a1, b1⟩ := kk T'.heap (locs ++ L) (by rw [e1]; exact hb) ⟨by rw [e1]; exact hz, fun q h1 h2 => by rw [e1]; exact hk q h1 h2, fun q hq => absurd hq List.not_mem_nil⟩
    ⟨Nat.le_trans hS.1 (by rw [e1]; exact hz), fun q h1 h2 => by rw [e1, hk q (Nat.lt_of_lt_of_le h1 hS.1) (fun z => h2 (hA q (Nat.lt_of_lt_of_le h1 hS.1) z))]; exact hS.2.1 q h1 h2, fun q hq => by
      rcases List.mem_append.mp hq with h | h
      · exact hS.2.2 q h
      · exact hf _ (hL q h)⟩ T' rfl X'
  exact ⟨t2, st t2 a1, b1⟩
end CG2
section KS
variable {q : MI} {p : Program} {l : Launch} {e : Env} {R : Room} {s : State} {m : MethodId} {args : Array Value} {below : List Frame} {meth : Method} {c : Code} {D : va_G} {cy : ClassId × ClassId} {ct h0 : Nat} {H : Heap} {locs : List Loc} {cells slots : Nat} {Q : State → Prop} {ls : Array Slot} {fs : List Value} {rest : va_W} {pc : Nat}
set_option maxHeartbeats 400000 in
theorem K_begin (C : KC q p s m args meth c D cy ct h0) (hl : lv_has ls q.2.2.1 [(0, .ref h0)]) (hlk : Cond.methodLink (nmC q.2.2.2.2) 3 Lib.objectInit ∈ GW) (hok : (decide (decode q.2.1 0 = .ok (.aload_n 0, 1)) && decide (decode q.2.1 1 = .ok (.invokespecial 3, 3))) = true) (hR : 1 ≤ R.frames ∧ 12 ≤ R.locals) (kk : W p l e R s m args below meth c H locs cells slots Q (F0 m 4 ls [])) : W p l e R s m args below meth c H locs cells slots Q (F0 m 0 ls []) := by
  simp only [Bool.and_eq_true, decide_eq_true_eq] at hok
  refine lv_aload_n C.1.1 C.1.2.1 hok.1 rfl (lv_at hl 0 rfl) ?_
  refine W.objInit C.1.1 C.1.2.1 C.1.2.2.2.2.2.1 (C.1.2.2.2.2.2.2 _ (List.mem_cons_of_mem _ hlk)) (C.1.2.2.2.2.2.2 _ (List.mem_cons_of_mem _ w_oi)) (C.1.2.2.2.2.2.2 _ (List.mem_cons_of_mem _ w_oc)) rfl (by rw [C.1.2.2.1]; exact hl.1) rfl hok.2 hR.1 (show 2 * 0 + 0 + 12 ≤ R.locals by have := hR.2; omega) ?_
  exact W.eq (g2 := F0 m 4 ls []) rfl kk
def pushV (q : MI) (pc : Nat) (n : Int32) (len : Nat) : Bool := match decode q.2.1 pc with
  | .ok (.iconst v, k) => decide (k = 1 ∧ len = 1 ∧ Int32.ofInt v = n)
  | .ok (.bipush v, k) => decide (k = 2 ∧ len = 2 ∧ (Int8.ofInt v).toInt32 = n)
  | .ok (.sipush v, k) => decide (k = 3 ∧ len = 3 ∧ (Int16.ofInt v).toInt32 = n)
  | _ => false
set_option maxHeartbeats 400000 in
theorem K_push (hx : p.tables.exec = Jvm.exec) (hb : c.code = q.2.1) {n : Int32} {len : Nat} {st : List Value} (h : pushV q pc n len = true) (kk : W p l e R s m args below meth c H locs cells slots Q (F0 m (pc + len) ls (.int n :: st))) : W p l e R s m args below meth c H locs cells slots Q (F0 m pc ls st) := by
  unfold pushV at h
  split at h
  · rename_i v k hd
    obtain ⟨rfl, rfl, rfl⟩ := of_decide_eq_true h
    exact lv_iconst hx hb hd rfl kk
  · rename_i v k hd
    obtain ⟨rfl, rfl, rfl⟩ := of_decide_eq_true h
    exact lv_bipush hx hb hd rfl kk
  · rename_i v k hd
    obtain ⟨rfl, rfl, rfl⟩ := of_decide_eq_true h
    exact lv_sipush hx hb hd rfl kk
  · cases h
/-- a field of the object itself: its table's row -/
def fldOk (q : MI) (idx k : Nat) (fin : Bool) (ty : FieldType) : Bool := decide (k < nsl q.2.2.2.2) && (decide (q.2.2.2.2 < 10) && (decide ((q.2.2.2.2, idx, q.2.2.2.2 * 100 + k) ∈ FTL) && (decide (k < 100) && (decide ((fT q.2.2.2.2 k).2.2.2 = fin) && (decide ((fT q.2.2.2.2 k).1 = nmC q.2.2.2.2) && decide (parseFieldDescriptor (fT q.2.2.2.2 k).2.2.1 = some ty))))))
set_option maxHeartbeats 400000 in
theorem fldOk_s {idx k : Nat} {fin : Bool} {ty : FieldType} (h : fldOk q idx k fin ty = true) : k < nsl q.2.2.2.2 ∧ q.2.2.2.2 < 10 ∧ (q.2.2.2.2, idx, q.2.2.2.2 * 100 + k) ∈ FTL ∧ k < 100 ∧ (fT q.2.2.2.2 k).2.2.2 = fin ∧ (fT q.2.2.2.2 k).1 = nmC q.2.2.2.2 ∧ parseFieldDescriptor (fT q.2.2.2.2 k).2.2.1 = some ty := by
  simpa only [fldOk, Bool.and_eq_true, decide_eq_true_eq] using h
set_option maxHeartbeats 400000 in
/-- a final field of the object is set -/
theorem K_putF (C : KC q p s m args meth c D cy ct h0) (hh : KH D s h0 q.2.2.2.2 fs rest H locs) {v : Value} {idx k : Nat} {ty : FieldType} {st : List Value} (hf : fldOk q idx k true ty = true) (hn : narrow ty v = v) (hfit : fits ty v = true) (hlen : k < fs.length) (hd : decode q.2.1 pc = .ok (.putfield idx, 3))
    (kk : ∀ (H1 : Heap) (locs1 : List Loc), KH D s h0 q.2.2.2.2 (fs.set k v) rest H1 locs1 → W p l e R s m args below meth c H1 locs1 cells slots Q (F0 m (pc + 3) ls st)) : W p l e R s m args below meth c H locs cells slots Q (F0 m pc ls (v :: .ref h0 :: st)) := by
  obtain ⟨f1, f2, f3, f4, f5, f6, f7⟩ := fldOk_s hf
  exact va_putF C.1.1 C.1.2.1 C.1.2.2.2.2.2.2 (fun w hw => List.mem_cons_of_mem _ (kd_ws f2 w hw)) (fY q.2.2.2.2) (kd_ty f2) (kd_nm f2) C.1.2.2.2.2.2.1 C.2.1 hh.1 hh.2.1 hh.2.2 0 rfl (kd_cl f2) k f1 (C.1.2.2.2.2.2.2 _ (List.mem_cons_of_mem _ (ft_link f3 f4))) (fun _ hx => hx) f5 C.2.2.2.2 f6 f7 hn hfit hlen hd (fun H1 locs1 a b cc => kk H1 locs1 ⟨a, b, cc⟩)
set_option maxHeartbeats 400000 in
/-- another field of the object is set -/
theorem K_put (C : KC q p s m args meth c D cy ct h0) (hh : KH D s h0 q.2.2.2.2 fs rest H locs) {v : Value} {idx k : Nat} {ty : FieldType} {st : List Value} (hf : fldOk q idx k false ty = true) (hn : narrow ty v = v) (hfit : fits ty v = true) (hlen : k < fs.length) (hd : decode q.2.1 pc = .ok (.putfield idx, 3))
    (kk : ∀ (H1 : Heap) (locs1 : List Loc), KH D s h0 q.2.2.2.2 (fs.set k v) rest H1 locs1 → W p l e R s m args below meth c H1 locs1 cells slots Q (F0 m (pc + 3) ls st)) : W p l e R s m args below meth c H locs cells slots Q (F0 m pc ls (v :: .ref h0 :: st)) := by
  obtain ⟨f1, f2, f3, f4, f5, f6, f7⟩ := fldOk_s hf
  exact va_put C.1.1 C.1.2.1 C.1.2.2.2.2.2.2 (fun w hw => List.mem_cons_of_mem _ (kd_ws f2 w hw)) (fY q.2.2.2.2) (kd_ty f2) (kd_nm f2) C.1.2.2.2.2.2.1 C.2.1 hh.1 hh.2.1 hh.2.2 0 rfl (kd_cl f2) k f1 (C.1.2.2.2.2.2.2 _ (List.mem_cons_of_mem _ (ft_link f3 f4))) (fun _ hx => hx) f5 f7 hn hfit hlen hd (fun H1 locs1 a b cc => kk H1 locs1 ⟨a, b, cc⟩)
def arrOk (q : MI) (pc len : Nat) (n : Int32) (at' : ArrayType) (idx : Nat) : Bool := decide (decode q.2.1 pc = .ok (.aload_n 0, 1)) && (pushV q (pc + 1) n len && (decide (decode q.2.1 (pc + 1 + len) = .ok (.newarray at', 2)) && decide (decode q.2.1 (pc + 1 + len + 2) = .ok (.putfield idx, 3))))
set_option maxHeartbeats 400000 in
theorem A1_ge {s : State} {h0 : Nat} : ∀ x, s.heap.size ≤ x → A1 h0 s.heap.size x := fun _ h => Or.inr h
set_option maxHeartbeats 400000 in
/-- an array of ints is made and put into a final field -/
theorem K_arrI (C : KC q p s m args meth c D cy ct h0) (hl : lv_has ls q.2.2.1 [(0, .ref h0)]) (hh : KH D s h0 q.2.2.2.2 fs rest H locs) (k N len idx nx : Nat) (n : Int32) (hok : arrOk q pc len n .int idx = true) (hnx : pc + 1 + len + 2 + 3 = nx) (hf : fldOk q idx k true (.array .int) = true) (hlen : k < fs.length) (hn : ¬ n < 0 ∧ n.toNatClampNeg = N ∧ N ≤ 100000) (hR : cells + 1 ≤ R.cells ∧ slots + N ≤ R.slots)
    (kk : ∀ (a : Nat) (H1 : Heap) (locs1 : List Loc), KH D s h0 q.2.2.2.2 (fs.set k (.ref a)) (rest ++ [(a, .inl (cy.1, N, .inl (fun _ => 0)))]) H1 locs1 → W p l e R s m args below meth c H1 locs1 (cells + 1) (slots + N) Q (F0 m nx ls [])) : W p l e R s m args below meth c H locs cells slots Q (F0 m pc ls []) := by
  subst hnx
  simp only [arrOk, Bool.and_eq_true, decide_eq_true_eq] at hok
  obtain ⟨o1, o2, o3, o4⟩ := hok
  refine lv_aload_n C.1.1 C.1.2.1 o1 rfl (lv_at hl 0 rfl) ?_
  refine K_push (q := q) C.1.1 C.1.2.1 o2 ?_
  refine va_newa (atype := .int) (ty := .int) (a0 := (N, .inl (fun _ => 0))) C.1.1 C.1.2.1 (C.1.2.2.2.2.2.2 _ (List.mem_cons_of_mem _ w_aI)) rfl C.2.1 hh.1 hh.2.1 hh.2.2 A1_ge (fun _ => rfl) hn.1 hn.2.1 (Nat.le_trans (Nat.mul_le_mul_right _ hn.2.2) (by decide)) hR.1 hR.2 o3 (fun a cA H1 hK hP hD hS => ?_)
  have e0 := (C.2.1.2 0 _ rfl).2
  have e1 := (hK.2 2 _ rfl).2
  have e : cA = cy.1 := Option.some.inj (e1.symm.trans e0)
  subst e
  have hh2 : KH D s h0 q.2.2.2.2 fs (rest ++ [(a, .inl (cy.1, N, .inl (fun _ => 0)))]) H1 locs := ⟨hP, hD, hS⟩
  exact K_putF C hh2 hf rfl rfl hlen o4 (fun H2 locs2 h2 => kk a H2 locs2 h2)
set_option maxHeartbeats 400000 in
/-- an array of longs -/
theorem K_arrJ (C : KC q p s m args meth c D cy ct h0) (hl : lv_has ls q.2.2.1 [(0, .ref h0)]) (hh : KH D s h0 q.2.2.2.2 fs rest H locs) (k N len idx nx : Nat) (n : Int32) (hok : arrOk q pc len n .long idx = true) (hnx : pc + 1 + len + 2 + 3 = nx) (hf : fldOk q idx k true (.array .long) = true) (hlen : k < fs.length) (hn : ¬ n < 0 ∧ n.toNatClampNeg = N ∧ N ≤ 100000) (hR : cells + 1 ≤ R.cells ∧ slots + N ≤ R.slots)
    (kk : ∀ (a : Nat) (H1 : Heap) (locs1 : List Loc), KH D s h0 q.2.2.2.2 (fs.set k (.ref a)) (rest ++ [(a, .inl (cy.2, N, .inr (.inl (fun _ => 0))))]) H1 locs1 → W p l e R s m args below meth c H1 locs1 (cells + 1) (slots + N) Q (F0 m nx ls [])) : W p l e R s m args below meth c H locs cells slots Q (F0 m pc ls []) := by
  subst hnx
  simp only [arrOk, Bool.and_eq_true, decide_eq_true_eq] at hok
  obtain ⟨o1, o2, o3, o4⟩ := hok
  refine lv_aload_n C.1.1 C.1.2.1 o1 rfl (lv_at hl 0 rfl) ?_
  refine K_push (q := q) C.1.1 C.1.2.1 o2 ?_
  refine va_newa (atype := .long) (ty := .long) (a0 := (N, .inr (.inl (fun _ => 0)))) C.1.1 C.1.2.1 (C.1.2.2.2.2.2.2 _ (List.mem_cons_of_mem _ w_aJ)) rfl C.2.1 hh.1 hh.2.1 hh.2.2 A1_ge (fun _ => rfl) hn.1 hn.2.1 (Nat.le_trans (Nat.mul_le_mul_right _ hn.2.2) (by decide)) hR.1 hR.2 o3 (fun a cA H1 hK hP hD hS => ?_)
  have e0 := (C.2.1.2 1 _ rfl).2
  have e1 := (hK.2 2 _ rfl).2
  have e : cA = cy.2 := Option.some.inj (e1.symm.trans e0)
  subst e
  have hh2 : KH D s h0 q.2.2.2.2 fs (rest ++ [(a, .inl (cy.2, N, .inr (.inl (fun _ => 0))))]) H1 locs := ⟨hP, hD, hS⟩
  exact K_putF C hh2 hf rfl rfl hlen o4 (fun H2 locs2 h2 => kk a H2 locs2 h2)
def objOk (q : MI) (pc cidx midx idx : Nat) : Bool := decide (decode q.2.1 pc = .ok (.aload_n 0, 1)) && (decide (decode q.2.1 (pc + 1) = .ok (.new cidx, 3)) && (decide (decode q.2.1 (pc + 4) = .ok (.dup, 1)) && (decide (decode q.2.1 (pc + 5) = .ok (.invokespecial midx, 3)) && decide (decode q.2.1 (pc + 8) = .ok (.putfield idx, 3)))))
/-- what links a constructor that is called -/
def LkI (o cidx midx : Nat) (q' : MI) : Prop := (q'.2.2.2.2 < 10 ∧ Cond.classLink (nmC o) cidx (nmC q'.2.2.2.2) ∈ GW ∧ Cond.instantiable (nmC q'.2.2.2.2) (nsl q'.2.2.2.2) ∈ GW ∧ Cond.initialized (nmC q'.2.2.2.2) ∈ GW ∧ Cond.instanceMethod q'.1 ∈ GW ∧ mdCode q' ∧ (((nmC o, midx, q'.1, "TimedJoin") ∈ NWL) ∨ Cond.methodLink (nmC o) midx q'.1 ∈ GW)) ∧ q'.1.cls = nmC q'.2.2.2.2 ∧ q'.1.name = "<init>" ∧ q'.2.2.2.1 = none ∧ q'.1.cls ≠ "java/lang/invoke/MethodHandle" ∧ q'.1.cls ≠ "java/lang/invoke/VarHandle" ∧ (parseMethodDescriptor q'.1.desc).map (fun d => d.parameters.length) = some 0
set_option maxHeartbeats 8000000 in
theorem K_obj {q' : MI} {d' mc' ms' : Nat} {fs' : List Value} {sh' : Shp} {Pr' : HP → Prop} (C : KC q p s m args meth c D cy ct h0) (hl : lv_has ls q.2.2.1 [(0, .ref h0)]) (hh : KH D s h0 q.2.2.2.2 fs rest H locs) (hM : Mk d' q' fs' sh' Pr' mc' ms') (k cidx midx idx nx : Nat) (hok : objOk q pc cidx midx idx = true) (hnx : pc + 8 + 3 = nx) (hL : LkI q.2.2.2.2 cidx midx q') (nm : String) (hnme : nm = nmC q'.2.2.2.2) (hf : fldOk q idx k true (.object nm) = true) (hlen : k < fs.length) (hfs : ∀ j, j < nsl q'.2.2.2.2 → defaultValue (fY q'.2.2.2.2 j) = vp_V fs' j) (hs0 : 0 < sh'.1) (hR : (d' + 1 ≤ R.frames ∧ 8 + (q'.2.2.1 + 11) + 40 * d' ≤ R.locals) ∧ cells + 1 + mc' ≤ R.cells ∧ slots + nsl q'.2.2.2.2 + ms' ≤ R.slots)
    (kk : ∀ (ad' : Nat → Nat) (hp' : HP) (H1 : Heap) (locs1 : List Loc), Pr' hp' → KH D s h0 q.2.2.2.2 (fs.set k (.ref (ad' 0))) (rest ++ wl cy sh' ad' hp') H1 locs1 → W p l e R s m args below meth c H1 locs1 (cells + 1 + mc') (slots + nsl q'.2.2.2.2 + ms') Q (F0 m nx ls [])) : W p l e R s m args below meth c H locs cells slots Q (F0 m pc ls []) := by
  subst hnx
  simp only [objOk, Bool.and_eq_true, decide_eq_true_eq] at hok
  obtain ⟨o1, o2, o3, o4, o5⟩ := hok
  obtain ⟨⟨k10, k1, k2, k3, k4, k5, k6⟩, n1, n2, n3, n4⟩ := hL
  have hts := C.1.2.2.2.2.2.2
  refine lv_aload_n C.1.1 C.1.2.1 o1 rfl (lv_at hl 0 rfl) ?_
  refine va_new (ci := q'.2.2.2.2) (fs := fs') (C := nmC q'.2.2.2.2) (T := fT q'.2.2.2.2) (N := nsl q'.2.2.2.2) C.1.1 C.1.2.1 hts (fun w hw => List.mem_cons_of_mem _ (kd_ws k10 w hw)) (fY q'.2.2.2.2) (kd_ty k10) C.1.2.2.2.2.2.1 (hts _ (List.mem_cons_of_mem _ k1)) (hts _ (List.mem_cons_of_mem _ k2)) (hts _ (List.mem_cons_of_mem _ k3)) C.2.1 hh.1 hh.2.1 hh.2.2 A1_ge (kd_cl k10) hfs (by omega) (by omega) o2 (fun a H1 hP hD hS => ?_)
  refine lv_dup C.1.1 C.1.2.1 o3 rfl ?_
  have hAa : A1 h0 s.heap.size a := hD.2 (((h0, .inr (q.2.2.2.2, fs)) :: rest).length) (a, .inr (q'.2.2.2.2, fs')) (by rw [List.getElem?_append_right (Nat.le_refl _), Nat.sub_self]; rfl)
  have hn : ∀ x, A1 a H1.size x → A1 h0 s.heap.size x := fun x hx => hx.elim (fun h => by rw [h]; exact hAa) (fun h => Or.inr (Nat.le_trans hS.1 h))
  have hpre : ∀ U : State, U.heap = H1 → s.WarmedH U.vm → va_Pc [.ref a] (PreM D cy ct a q'.2.2.2.2 fs' H1.size) ([Value.ref a] : List Value).toArray U := fun U hU hW => by
    refine ⟨rfl, by rw [hU], by rw [hU]; exact P_right hP, va_K.moved hW.alike C.2.1, ?_, fun w hw => va_Nw.warmM hW (C.2.2.2.1 w hw)⟩
    rw [hU]
    exact ⟨((C.2.2.1.1.kept hS.2.1).narrow hn).moved hW.alike, ((C.2.2.1.2.kept hS.2.1).narrow hn).moved hW.alike⟩
  have hrun : va_Run p l e R s m args below meth c H1 locs (cells + 1) (slots + nsl q'.2.2.2.2) mc' ms' (F0 m (pc + 5) ls [.ref a, .ref a, .ref h0]) [.ref a, .ref h0] (PostM D cy sh' Pr' a H1.size ([Value.ref a] : List Value).toArray) (A1 a H1.size) := by
    have hw : wsM q' = Cond.code q'.1 q'.2.1 q'.2.2.1 none :: GW := by unfold wsM; rw [n3]
    have hini : (Cond.initialized q'.1.cls).before args s = true := by rw [n1]; exact hts _ (List.mem_cons_of_mem _ k3)
    have hG : GoodIn (wsM q) (wsM q') := gw_in k5
    have hfix : CallFix p m c q.2.1 q.2.2.1 s args (wsM q) (nmC q.2.2.2.2) := ⟨C.1.1, C.1.2.1, C.1.2.2.1, C.1.2.2.2.2.2.1, hts⟩
    have him : (Cond.instanceMethod q'.1).before args s = true := hts _ (List.mem_cons_of_mem _ k4)
    have hMM := hM l D cy ct H1.size a
    have hPS : PreS s H1 (va_Pc [.ref a] (PreM D cy ct a q'.2.2.2.2 fs' H1.size)) [.ref a] := ⟨preM_blind, hpre⟩
    have hrm : 2 * (F0 m (pc + 5) ls [.ref a, .ref a, .ref h0]).monitorRoom + (([.ref a, .ref h0] : List Value).map fun v => v.category).sum ≤ 8 := lv_room (Nat.le_of_ble_eq_true rfl)
    have hroom : cells + 1 + mc' ≤ R.cells ∧ slots + nsl q'.2.2.2.2 + ms' ≤ R.slots := hR.2
    rcases k6 with k6 | k6
    · have hnw : va_Nw (.methodLinkNest (nmC q.2.2.2.2) midx q'.1 "TimedJoin") s := C.2.2.2.1 _ k6
      have hcn : va_CN R s args (nmC q.2.2.2.2) midx q'.1 "TimedJoin" q'.2.1 q'.2.2.1 none (wsM q') (rmK d' mc' ms') mc' ms' 0 := va_cnB 0 hts hG hw rfl rfl hnw hini n4 hR.1
      exact va_runIN (As := []) (rest := [.ref a, .ref h0]) hfix hMM ⟨hcn, n2, him⟩ hPS rfl rfl hl.1 rfl hrm o4 hroom
    · have hcb : CallB R s args (nmC q.2.2.2.2) midx q'.1 q'.2.1 q'.2.2.1 none (wsM q') (rmK d' mc' ms') mc' ms' 0 ∧ q'.1.name = "<init>" ∧ (Cond.instanceMethod q'.1).before args s = true := cwI 0 hts hG hw rfl rfl hini (hts _ (List.mem_cons_of_mem _ k6)) him n2 n4 hR.1
      exact va_runI (As := []) (rest := [.ref a, .ref h0]) hfix hMM hcb hPS rfl rfl hl.1 rfl hrm o4 hroom
  refine callG2 (v := none) (B := Built D cy sh' Pr' a H1.size) (A1 := A1 a H1.size) hrun hS (fun x _ h => hn x h) hn (fun H2 locs2 hB hF hS2 => ?_)
  obtain ⟨ad', hp', hPr, ha0, hinj, hsz, hPw⟩ := hB
  have hne : ∀ (i : Nat) (x : Nat × va_E), ((h0, Sum.inr (q.2.2.2.2, fs)) :: rest)[i]? = some x → x.1 < H1.size ∧ x.1 ≠ a := fun i x hx => by
    have hi : i < ((h0, Sum.inr (q.2.2.2.2, fs)) :: rest).length := (List.getElem?_eq_some_iff.mp hx).1
    refine ⟨(P_left hP i x hx).lt, fun z => ?_⟩
    have := hD.1 i (((h0, Sum.inr (q.2.2.2.2, fs)) :: rest).length) x (a, .inr (q'.2.2.2.2, fs')) (by rw [List.getElem?_append_left hi]; exact hx) (by rw [List.getElem?_append_right (Nat.le_refl _), Nat.sub_self]; rfl) z
    omega
  have hP2 : va_P D vwCl ((h0, .inr (q.2.2.2.2, fs)) :: rest) H2 := (P_left hP).kept (fun i x hx => hF.2.1 _ (hne i x hx).1 (fun z => z.elim (hne i x hx).2 (fun z => absurd (hne i x hx).1 (by omega))))
  have hD2 : va_D (A1 h0 s.heap.size) (((h0, .inr (q.2.2.2.2, fs)) :: rest) ++ wl cy sh' ad' hp') := by
    refine D_app (D_left hD) (wl_DA hinj (fun i hi => ?_)) (fun i j x y hx hy e => ?_)
    · by_cases z : i = 0
      · rw [z, ha0]; exact hAa
      · exact Or.inr (Nat.le_trans hS.1 (hsz i (by omega) hi))
    · obtain ⟨hj, rfl⟩ := wl_at hy
      have e : x.1 = ad' j := e
      have h1 := hne i x hx
      by_cases z : j = 0
      · rw [z, ha0] at e; exact h1.2 e
      · have := hsz j (by omega) hj; omega
  have hend := K_putF (R := R) (l := l) (e := e) (below := below) (cells := cells + 1 + mc') (slots := slots + nsl q'.2.2.2.2 + ms') (Q := Q) (ls := ls) (v := .ref a) (st := []) C (rest := rest ++ wl cy sh' ad' hp') ⟨hP2.app hPw, hD2, hS2⟩ hf rfl rfl hlen o5 (fun H3 locs3 h3 => kk ad' hp' H3 locs3 hPr (by rw [ha0]; exact h3))
  exact hend
set_option maxHeartbeats 400000 in
/-- the constructor's end -/
theorem K_ret {sh : Shp} {Pr : HP → Prop} {d mc ms : Nat} (C : KC q p s m args meth c D cy ct h0) (hr : q.2.2.2.1 = none) {ad : Nat → Nat} {hp : HP} (hP : va_P D vwCl (wl cy sh ad hp) H) (hD : va_D (A1 h0 s.heap.size) (wl cy sh ad hp)) (hS : va_S (A1 h0 s.heap.size) s.heap H locs) (hPr : Pr hp) (h00 : ad 0 = h0) (h1 : 0 < sh.1) (hd : decode q.2.1 pc = .ok (.return_, 1)) (hc : cells ≤ mc) (hs : slots ≤ ms) : W p l e (rmK d mc ms) s m args below meth c H locs cells slots (MQ below (PostM D cy sh Pr h0 s.heap.size) args s mc ms (A1 h0 s.heap.size)) (F0 m pc ls []) := by
  refine W.widen hc hs ?_
  refine W.vret C.1.1 C.1.2.1 (C.1.2.2.2.1.trans hr) (fun t ht _ => ⟨⟨rfl, ad, hp, hPr, h00, (wl_inj hD).1, fun i i0 hi => ?_, by rw [ht]; exact hP⟩, hS.F ht⟩) (fun x hx => hS.2.2 x hx) hd (hlocks := C.1.2.2.2.2.1)
  rcases (wl_inj hD).2 i hi with z | z
  · have := (wl_inj hD).1 i 0 hi h1 (z.trans h00.symm)
    omega
  · exact z
end KS
