def cmpL : List Int32 := [1, 1, 1, 1, 31, 31, 1, 1, 1, 1, 31, 31, 8191, 1, 1, 1, 2, 28, 28, 2, 1, 1, 2, 28, 224, 7936, 1, 1, 7, 4, 28, 28, 4, 7, 391, 388, 2044, 1792, 7936, 1, 1, 7, 8, 16, 16, 8, 7, 391, 584, 1072, 2048, 4096, 1, 1, 31, 16, 16, 16, 16, 31, 8191, 7216, 7216, 4096, 4096, 1, 2, 28, 16, 16, 32, 32, 224, 7936, 7168, 7168, 4096, 4096, 1, 2, 4, 8, 16, 32, 64, 128, 256, 512, 1024, 2048, 4096, 1, 2, 4, 4, 28, 224, 128, 128, 256, 256, 1792, 1792, 7936, 391, 388, 388, 388, 2044, 1792, 256, 256, 256, 256, 1792, 1792, 7936, 391, 388, 388, 584, 1072, 1024, 512, 256, 256, 512, 1024, 2048, 4096, 391, 388, 2044, 1072, 1072, 1024, 1024, 1792, 7936, 7168, 7168, 4096, 4096, 391, 584, 1072, 1072, 1072, 2048, 2048, 2048, 4096, 4096, 4096, 4096, 4096, 8191, 7216, 7216, 7216, 7216, 4096, 4096, 4096, 4096, 4096, 4096, 4096, 4096]
def cmpT (j : Nat) : Int32 := cmpL.getD j 0
theorem zLink : Cond.fieldLink (nmC 8) 399 "TimedJoin" "COMPOSED" "[I" ∈ GW := gwI 826 (by decide +kernel)

def Zt (ct : Nat) (A : Nat → Prop) (U : State) (H : Heap) : Prop := va_Z "TimedJoin" "COMPOSED" "[I" (.ref ct) A U H ∧ va_T .int ct 169 (fun j => .int (cmpT j)) A U H
def tys2 (cy : ClassId × ClassId) : List (ClassId × FieldType) := [(cy.1, .int), (cy.2, .long)]
def rmL (d : Nat) : Room := { frames := d, cells := 0, slots := 0, locals := 40 * d }
def PostX (D : va_G) (cy : ClassId × ClassId) (sh : Shp) (ad : Nat → Nat) (ct : Nat) (r : Option Value) (hp0 : HP) (sz : Nat) : Array Value → State → Outcome → State → Prop := fun _ st oc t => (oc = .returned (r.map (cv ad ct)) ∧ va_P D vwCl (wl cy sh ad hp0) t.heap) ∧ va_F (AA sh ad sz) st t
def PreX (D : va_G) (cy : ClassId × ClassId) (sh : Shp) (ad : Nat → Nat) (ct : Nat) (hp : HP) (sz : Nat) (U : State) : Prop := U.heap.size = sz ∧ va_P D vwCl (wl cy sh ad hp) U.heap ∧ va_K D vwCl (tys2 cy) U ∧ inj sh ad ∧ Zt ct (AA sh ad sz) U U.heap ∧ NW U
/-- the contract of a method: from the world hp it answers r and leaves the world hp' -/
def Ex (d : Nat) (q : MI) (sh : Shp) (as : List Value) (hp : HP) (r : Option Value) (hp' : HP) : Prop := ∀ (l : Launch) (D : va_G) (cy : ClassId × ClassId) (ad : Nat → Nat) (ct sz : Nat), Met l q.1 (wsM q) (rmL d) (va_Pc (as.map (cv ad ct)) (PreX D cy sh ad ct hp sz)) (PostX D cy sh ad ct r hp' sz) 0 0 (AA sh ad sz)
def FxC (q : MI) (sh : Shp) (p : Program) (s : State) (m : MethodId) (args : Array Value) (meth : Method) (c : Code) (D : va_G) (cy : ClassId × ClassId) (ad : Nat → Nat) (ct : Nat) : Prop := (p.tables.exec = Jvm.exec ∧ c.code = q.2.1 ∧ c.maxLocals = q.2.2.1 ∧ meth.sig.returnType = q.2.2.2.1 ∧ meth.locks = false ∧ s.vm.findClass (nmC q.2.2.2.2) = some m.cls ∧ ∀ w ∈ wsM q, w.before args s = true) ∧ va_K D vwCl (tys2 cy) s ∧ inj sh ad ∧ Zt ct (AA sh ad s.heap.size) s s.heap ∧ NW s
def FxH (q : MI) (sh : Shp) (s : State) (D : va_G) (cy : ClassId × ClassId) (ad : Nat → Nat) (ct : Nat) (lv : List (Option Value)) (hp : HP) (ls : Array Slot) (H : Heap) (locs : List Loc) : Prop := LR ad ct q.2.2.1 lv ls ∧ va_P D vwCl (wl cy sh ad hp) H ∧ va_S (AA sh ad s.heap.size) s.heap H locs
/-- from the frame at pc, with locals lv, stack stk, world hp, the method comes to its end with r and the world hp0 -/
def Fx (q : MI) (d : Nat) (sh : Shp) (pc : Nat) (lv : List (Option Value)) (stk : List Value) (hp : HP) (r : Option Value) (hp0 : HP) : Prop := ∀ (p : Program) (l : Launch) (e : Env) (s : State) (m : MethodId) (args : Array Value) (below : List Frame) (meth : Method) (c : Code) (D : va_G) (cy : ClassId × ClassId) (ad : Nat → Nat) (ct : Nat), FxC q sh p s m args meth c D cy ad ct → ∀ (ls : Array Slot) (H : Heap) (locs : List Loc), FxH q sh s D cy ad ct lv hp ls H locs → W p l e (rmL d) s m args below meth c H locs 0 0 (MQ below (PostX D cy sh ad ct r hp0 s.heap.size) args s 0 0 (AA sh ad s.heap.size)) (F0 m pc ls (stk.map (cv ad ct)))
abbrev Zn : Type := Instr × Nat × Nat × Nat × Value
abbrev KK : Type := List (Option Value) → List Value → HP → Prop
def wp1 (sh : Shp) (z : Zn) (lv : List (Option Value)) (stk : List Value) (hp : HP) (K : KK) : Prop :=
  match z.1 with
  | .iconst _ => K lv (z.2.2.2.2 :: stk) hp
  | .bipush _ => K lv (z.2.2.2.2 :: stk) hp
  | .sipush _ => K lv (z.2.2.2.2 :: stk) hp
  | .ldc _ => K lv (z.2.2.2.2 :: stk) hp
  | .ldc_w _ => K lv (z.2.2.2.2 :: stk) hp
  | .lconst _ => K lv (z.2.2.2.2 :: stk) hp
  | .ldc2_w _ => K lv (z.2.2.2.2 :: stk) hp
  | .iload_n _ => (match lg lv z.2.2.1 with | some (.int x) => K lv (.int x :: stk) hp | _ => False)
  | .iload _ => (match lg lv z.2.2.1 with | some (.int x) => K lv (.int x :: stk) hp | _ => False)
  | .lload_n _ => (match lg lv z.2.2.1 with | some (.long x) => K lv (.long x :: stk) hp | _ => False)
  | .lload _ => (match lg lv z.2.2.1 with | some (.long x) => K lv (.long x :: stk) hp | _ => False)
  | .aload_n _ => (match lg lv z.2.2.1 with | some (.ref x) => K lv (.ref x :: stk) hp | _ => False)
  | .aload _ => (match lg lv z.2.2.1 with | some (.ref x) => K lv (.ref x :: stk) hp | _ => False)
  | .istore_n _ => (match stk with | .int x :: st => K (lst1 lv z.2.2.1 (.int x)) st hp | _ => False)
  | .istore _ => (match stk with | .int x :: st => K (lst1 lv z.2.2.1 (.int x)) st hp | _ => False)
  | .astore_n _ => (match stk with | .ref x :: st => K (lst1 lv z.2.2.1 (.ref x)) st hp | _ => False)
  | .astore _ => (match stk with | .ref x :: st => K (lst1 lv z.2.2.1 (.ref x)) st hp | _ => False)
  | .lstore_n _ => (match stk with | .long x :: st => K (lst2 lv z.2.2.1 (.long x)) st hp | _ => False)
  | .lstore _ => (match stk with | .long x :: st => K (lst2 lv z.2.2.1 (.long x)) st hp | _ => False)
  | .iinc _ _ => (match lg lv z.2.2.1 with | some (.int x) => (match z.2.2.2.2 with | .int k => K (lst1 lv z.2.2.1 (.int (x + k))) stk hp | _ => False) | _ => False)
  | .iadd => (match stk with | .int y :: .int x :: st => K lv (.int (x + y) :: st) hp | _ => False)
  | .isub => (match stk with | .int y :: .int x :: st => K lv (.int (x - y) :: st) hp | _ => False)
  | .imul => (match stk with | .int y :: .int x :: st => K lv (.int (x * y) :: st) hp | _ => False)
  | .iand => (match stk with | .int y :: .int x :: st => K lv (.int (x &&& y) :: st) hp | _ => False)
  | .ior => (match stk with | .int y :: .int x :: st => K lv (.int (x ||| y) :: st) hp | _ => False)
  | .ishl => (match stk with | .int y :: .int x :: st => K lv (.int (x <<< (y &&& 31)) :: st) hp | _ => False)
  | .ishr => (match stk with | .int y :: .int x :: st => K lv (.int (x >>> (y &&& 31)) :: st) hp | _ => False)
  | .idiv => (match stk with | .int y :: .int x :: st => ¬ y = 0 ∧ K lv (.int (x / y) :: st) hp | _ => False)
  | .irem => (match stk with | .int y :: .int x :: st => ¬ y = 0 ∧ K lv (.int (x - x / y * y) :: st) hp | _ => False)
  | .ladd => (match stk with | .long y :: .long x :: st => K lv (.long (x + y) :: st) hp | _ => False)
  | .lsub => (match stk with | .long y :: .long x :: st => K lv (.long (x - y) :: st) hp | _ => False)
  | .lmul => (match stk with | .long y :: .long x :: st => K lv (.long (x * y) :: st) hp | _ => False)
  | .land => (match stk with | .long y :: .long x :: st => K lv (.long (x &&& y) :: st) hp | _ => False)
  | .lor => (match stk with | .long y :: .long x :: st => K lv (.long (x ||| y) :: st) hp | _ => False)
  | .lshl => (match stk with | .int y :: .long x :: st => K lv (.long (x <<< (y.toInt64 &&& 63)) :: st) hp | _ => False)
  | .lshr => (match stk with | .int y :: .long x :: st => K lv (.long (x >>> (y.toInt64 &&& 63)) :: st) hp | _ => False)
  | .lcmp => (match stk with | .long y :: .long x :: st => K lv (.int (lg_cmp x y) :: st) hp | _ => False)
  | .i2l => (match stk with | .int x :: st => K lv (.long x.toInt64 :: st) hp | _ => False)
  | .l2i => (match stk with | .long x :: st => K lv (.int x.toInt32 :: st) hp | _ => False)
  | .dup => (match stk with | .int x :: st => K lv (.int x :: .int x :: st) hp | .ref x :: st => K lv (.ref x :: .ref x :: st) hp | _ => False)
  | .dup2 => (match stk with | .int x :: .ref y :: st => K lv (.int x :: .ref y :: .int x :: .ref y :: st) hp | _ => False)
  | .pop => (match stk with | .int _ :: st => K lv st hp | _ => False)
  | .getfield _ => (match stk with
    | .ref c :: st => isK sh c z.2.2.1 ∧ (match z.2.2.2.2 with | .ref o => K lv (.ref (c + o) :: st) hp | _ => K lv (.int (hp.1 c z.2.2.2.1) :: st) hp)
    | _ => False)
  | .putfield _ => (match stk with
    | .int x :: .ref c :: st => isK sh c z.2.2.1 ∧ (match z.2.2.2.2 with | .null => K lv st (upI hp c z.2.2.2.1 x) | _ => (x = 0 ∨ x = 1) ∧ K lv st (upI hp c z.2.2.2.1 x))
    | _ => False)
  | .iaload => (match stk with
    | .int i :: .ref c :: st => (isA sh c 10 z.2.2.1 ∧ inb i z.2.2.1) ∧ K lv (.int (hp.1 c (ix i)) :: st) hp
    | .int i :: .retAddr _ :: st => inb i 169 ∧ K lv (.int (cmpT (ix i)) :: st) hp
    | _ => False)
  | .laload => (match stk with
    | .int i :: .ref c :: st => (isA sh c 11 z.2.2.1 ∧ inb i z.2.2.1) ∧ K lv (.long (hp.2 c (ix i)) :: st) hp
    | _ => False)
  | .iastore => (match stk with
    | .int x :: .int i :: .ref c :: st => (isA sh c 10 z.2.2.1 ∧ inb i z.2.2.1) ∧ K lv st (upI hp c (ix i) x)
    | _ => False)
  | .lastore => (match stk with
    | .long x :: .int i :: .ref c :: st => (isA sh c 11 z.2.2.1 ∧ inb i z.2.2.1) ∧ K lv st (upJ hp c (ix i) x)
    | _ => False)
  | .getstatic _ => K lv (.retAddr 0 :: stk) hp
  | _ => False
def wpl (sh : Shp) : List Zn → List (Option Value) → List Value → HP → KK → Prop
  | [], lv, st, hp, K => K lv st hp
  | z :: zs, lv, st, hp, K => wp1 sh z lv st hp (fun lv st hp => wpl sh zs lv st hp K)
/-- what is looked at ahead: the row's words, numbers, lengths -/
def chk (q : MI) (z : Zn) : Bool :=
  match z.1 with
  | .iconst n => decide (z.2.1 = 1) && decide (z.2.2.2.2 = .int (Int32.ofInt n))
  | .bipush n => decide (z.2.1 = 2) && decide (z.2.2.2.2 = .int (Int8.ofInt n).toInt32)
  | .sipush n => decide (z.2.1 = 3) && decide (z.2.2.2.2 = .int (Int16.ofInt n).toInt32)
  | .ldc k => decide (z.2.1 = 2) && (match z.2.2.2.2 with | .int v => decide ((q.2.2.2.2, k, v) ∈ KTL) | _ => false)
  | .ldc_w k => decide (z.2.1 = 3) && (match z.2.2.2.2 with | .int v => decide ((q.2.2.2.2, k, v) ∈ KTL) | _ => false)
  | .lconst n => decide (z.2.1 = 1) && decide (z.2.2.2.2 = .long (Int64.ofNat n.val))
  | .ldc2_w k => decide (z.2.1 = 3) && (match z.2.2.2.2 with | .long v => decide ((q.2.2.2.2, k, v) ∈ LTL) | _ => false)
  | .iload_n k => decide (z.2.1 = 1) && decide (k.val = z.2.2.1)
  | .lload_n k => decide (z.2.1 = 1) && decide (k.val = z.2.2.1)
  | .aload_n k => decide (z.2.1 = 1) && decide (k.val = z.2.2.1)
  | .iload k => decide (z.2.1 = 2) && decide (k = z.2.2.1)
  | .lload k => decide (z.2.1 = 2) && decide (k = z.2.2.1)
  | .aload k => decide (z.2.1 = 2) && decide (k = z.2.2.1)
  | .istore_n k => decide (z.2.1 = 1) && (decide (k.val = z.2.2.1) && decide (z.2.2.1 < q.2.2.1))
  | .astore_n k => decide (z.2.1 = 1) && (decide (k.val = z.2.2.1) && decide (z.2.2.1 < q.2.2.1))
  | .lstore_n k => decide (z.2.1 = 1) && (decide (k.val = z.2.2.1) && decide (z.2.2.1 + 1 < q.2.2.1))
  | .istore k => decide (z.2.1 = 2) && (decide (k = z.2.2.1) && decide (z.2.2.1 < q.2.2.1))
  | .astore k => decide (z.2.1 = 2) && (decide (k = z.2.2.1) && decide (z.2.2.1 < q.2.2.1))
  | .lstore k => decide (z.2.1 = 2) && (decide (k = z.2.2.1) && decide (z.2.2.1 + 1 < q.2.2.1))
  | .iinc k n => decide (z.2.1 = 3) && (decide (k = z.2.2.1) && (decide (z.2.2.1 < q.2.2.1) && decide (z.2.2.2.2 = .int (Int32.ofInt n))))
  | .getfield k => decide (z.2.1 = 3) && (decide ((q.2.2.2.2, k, z.2.2.1 * 100 + z.2.2.2.1) ∈ FTL) && (decide (z.2.2.1 < 10) && (decide (z.2.2.2.1 < nsl z.2.2.1) && (decide (z.2.2.2.1 < 100) && (match z.2.2.2.2 with | .ref o => decide (offR z.2.2.1 z.2.2.2.1 = o) && decide (o ≠ 0) | _ => decide (offR z.2.2.1 z.2.2.2.1 = 0) && decide (¬ (z.2.2.1 = 8 ∧ z.2.2.2.1 = 1)))))))
  | .putfield k => decide (z.2.1 = 3) && (decide ((q.2.2.2.2, k, z.2.2.1 * 100 + z.2.2.2.1) ∈ FTL) && (decide (z.2.2.1 < 10) && (decide (z.2.2.2.1 < nsl z.2.2.1) && (decide (z.2.2.2.1 < 100) && (decide (offR z.2.2.1 z.2.2.2.1 = 0) && (decide (¬ (z.2.2.1 = 8 ∧ z.2.2.2.1 = 1)) && (decide ((fT z.2.2.1 z.2.2.2.1).2.2.2 = false) && (match z.2.2.2.2 with | .null => decide (parseFieldDescriptor (fT z.2.2.1 z.2.2.2.1).2.2.1 = some .int) | _ => decide (parseFieldDescriptor (fT z.2.2.1 z.2.2.2.1).2.2.1 = some .boolean)))))))))
  | .getstatic k => decide (z.2.1 = 3) && (decide (k = 399) && decide (q.2.2.2.2 = 8))
  | _ => decide (z.2.1 = 1)
def okc (q : MI) (pc : Nat) (z : Zn) : Bool := decide (decode q.2.1 pc = .ok (z.1, z.2.1)) && chk q z
def okL (q : MI) : Nat → List Zn → Nat → Bool
  | pc, [], e => decide (pc = e)
  | pc, z :: zs, e => okc q pc z && okL q (pc + z.2.1) zs e
section SX
variable {q : MI} {d : Nat} {sh : Shp} {pc : Nat} {lv : List (Option Value)} {stk : List Value} {hp : HP} {r : Option Value} {hp0 : HP}
theorem Fx.mk1 {pc' : Nat} {stk' : List Value} (h : Fx q d sh pc' lv stk' hp r hp0)
    (hs : ∀ (p : Program) (l : Launch) (e : Env) (s : State) (m : MethodId) (args : Array Value) (below : List Frame) (meth : Method) (c : Code) (D : va_G) (cy : ClassId × ClassId) (ad : Nat → Nat) (ct : Nat), FxC q sh p s m args meth c D cy ad ct → ∀ (ls : Array Slot) (H : Heap) (locs : List Loc), FxH q sh s D cy ad ct lv hp ls H locs → ∀ Q : State → Prop, W p l e (rmL d) s m args below meth c H locs 0 0 Q (F0 m pc' ls (stk'.map (cv ad ct))) → W p l e (rmL d) s m args below meth c H locs 0 0 Q (F0 m pc ls (stk.map (cv ad ct)))) : Fx q d sh pc lv stk hp r hp0 :=
  fun p l e s m args below meth c D cy ad ct C ls H locs hh => hs p l e s m args below meth c D cy ad ct C ls H locs hh _ (h p l e s m args below meth c D cy ad ct C ls H locs hh)
/-- a store into a local -/
theorem Fx.mkL {pc' : Nat} {stk' : List Value} {lv' : List (Option Value)} (h : Fx q d sh pc' lv' stk' hp r hp0)
    (hs : ∀ (p : Program) (l : Launch) (e : Env) (s : State) (m : MethodId) (args : Array Value) (below : List Frame) (meth : Method) (c : Code) (D : va_G) (cy : ClassId × ClassId) (ad : Nat → Nat) (ct : Nat), FxC q sh p s m args meth c D cy ad ct → ∀ (ls : Array Slot) (H : Heap) (locs : List Loc), LR ad ct q.2.2.1 lv ls → ∀ Q : State → Prop, (∀ ls' : Array Slot, LR ad ct q.2.2.1 lv' ls' → W p l e (rmL d) s m args below meth c H locs 0 0 Q (F0 m pc' ls' (stk'.map (cv ad ct)))) → W p l e (rmL d) s m args below meth c H locs 0 0 Q (F0 m pc ls (stk.map (cv ad ct)))) : Fx q d sh pc lv stk hp r hp0 :=
  fun p l e s m args below meth c D cy ad ct C ls H locs hh => hs p l e s m args below meth c D cy ad ct C ls H locs hh.1 _ (fun ls' hl => h p l e s m args below meth c D cy ad ct C ls' H locs ⟨hl, hh.2⟩)
/-- a write into the world -/
theorem Fx.mkH {pc' : Nat} {stk' : List Value} {hp' : HP} (h : Fx q d sh pc' lv stk' hp' r hp0)
    (hs : ∀ (p : Program) (l : Launch) (e : Env) (s : State) (m : MethodId) (args : Array Value) (below : List Frame) (meth : Method) (c : Code) (D : va_G) (cy : ClassId × ClassId) (ad : Nat → Nat) (ct : Nat), FxC q sh p s m args meth c D cy ad ct → ∀ (ls : Array Slot) (H : Heap) (locs : List Loc), LR ad ct q.2.2.1 lv ls → va_P D vwCl (wl cy sh ad hp) H → va_S (AA sh ad s.heap.size) s.heap H locs → ∀ Q : State → Prop, (∀ (H1 : Heap) (locs1 : List Loc), va_P D vwCl (wl cy sh ad hp') H1 → va_S (AA sh ad s.heap.size) s.heap H1 locs1 → W p l e (rmL d) s m args below meth c H1 locs1 0 0 Q (F0 m pc' ls (stk'.map (cv ad ct)))) → W p l e (rmL d) s m args below meth c H locs 0 0 Q (F0 m pc ls (stk.map (cv ad ct)))) : Fx q d sh pc lv stk hp r hp0 :=
  fun p l e s m args below meth c D cy ad ct C ls H locs hh => hs p l e s m args below meth c D cy ad ct C ls H locs hh.1 hh.2.1 hh.2.2 _ (fun H1 locs1 h1 h2 => h p l e s m args below meth c D cy ad ct C ls H1 locs1 ⟨hh.1, h1, h2⟩)
end SX
theorem kd_cl {k : Nat} (h : k < 10) : vwCl[k]? = some (nmC k, fT k, nsl k) := by
  match k, h with
  | 0, _ => rfl | 1, _ => rfl | 2, _ => rfl | 3, _ => rfl | 4, _ => rfl | 5, _ => rfl | 6, _ => rfl | 7, _ => rfl | 8, _ => rfl | 9, _ => rfl
theorem kd_ws {k : Nat} (h : k < 10) : ∀ w ∈ u_ws (nmC k) (fT k) (nsl k), w ∈ GW := by
  match k, h with
  | 0, _ => exact uX0 | 1, _ => exact uX1 | 2, _ => exact uX2 | 3, _ => exact uX3 | 4, _ => exact uX4 | 5, _ => exact uX5 | 6, _ => exact uX6 | 7, _ => exact uX7 | 8, _ => exact uX8 | 9, _ => exact uX9
theorem kd_ty {k : Nat} (h : k < 10) : ∀ j, j < nsl k → parseFieldDescriptor (fT k j).2.2.1 = some (fY k j) := by
  match k, h with
  | 0, _ => exact tyX0_ok | 1, _ => exact tyX1_ok | 2, _ => exact tyX2_ok | 3, _ => exact tyX3_ok | 4, _ => exact tyX4_ok | 5, _ => exact tyX5_ok | 6, _ => exact tyX6_ok | 7, _ => exact tyX7_ok | 8, _ => exact tyX8_ok | 9, _ => exact tyX9_ok
theorem kd_nm {k : Nat} (h : k < 10) : ∀ a, a < nsl k → ∀ b, b < nsl k → a ≠ b → (fT k a).2.1 ≠ (fT k b).2.1 := by
  match k, h with
  | 0, _ => exact nmX0 | 1, _ => exact nmX1 | 2, _ => exact nmX2 | 3, _ => exact nmX3 | 4, _ => exact nmX4 | 5, _ => exact nmX5 | 6, _ => exact nmX6 | 7, _ => exact nmX7 | 8, _ => exact nmX8 | 9, _ => exact nmX9
theorem ft_link {o k a b : Nat} (h : (o, k, a * 100 + b) ∈ FTL) (hb : b < 100) : Cond.fieldLink (nmC o) k (fT a b).1 (fT a b).2.1 (fT a b).2.2.1 ∈ GW := by
  have h1 := FTL_ok _ h
  have e1 : (a * 100 + b) / 100 = a := by omega
  have e2 : (a * 100 + b) % 100 = b := by omega
  simp only [FTok, e1, e2] at h1
  exact h1
theorem fv_get {sh : Shp} {ad : Nat → Nat} {hp : HP} {c kd k : Nat} (hk : k < nsl kd) : ((List.range (nsl kd)).map (fv sh ad hp c))[k]? = some (fv sh ad hp c k) := by
  simp [List.getElem?_range hk]

