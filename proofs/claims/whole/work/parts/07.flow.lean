section FL
variable {q : MI} {d : Nat} {sh : Shp} {pc : Nat} {lv : List (Option Value)} {st : List Value} {hp : HP} {r : Option Value} {hp0 : HP}
def okJ (q : MI) (pc : Nat) (i : Instr) (off : Int) (tgt nx : Nat) : Bool := decide (decode q.2.1 pc = .ok (i, 3)) && (decide ((pc : Int) + off = (tgt : Int)) && decide (pc + 3 = nx))
theorem okJ_s {i : Instr} {off : Int} {tgt nx : Nat} (h : okJ q pc i off tgt nx = true) : decode q.2.1 pc = .ok (i, 3) ∧ (pc : Int) + off = (tgt : Int) ∧ pc + 3 = nx := by
  simpa only [okJ, Bool.and_eq_true, decide_eq_true_eq] using h
theorem Fx.goto (off : Int) (tgt : Nat) (h : okJ q pc (.goto off) off tgt (pc + 3) = true) (k : Fx q d sh tgt lv st hp r hp0) : Fx q d sh pc lv st hp r hp0 := Fx.mk1 k (fun _ _ _ _ _ _ _ _ _ _ _ _ _ C _ _ _ _ _ k => lv_goto C.1.1 C.1.2.1 (okJ_s h).1 (okJ_s h).2.1 k)
theorem Fx.if_eq {x : Int32} (off : Int) (tgt nx : Nat) (h : okJ q pc (.ifCond .eq off) off tgt nx = true) (kt : x = 0 → Fx q d sh tgt lv st hp r hp0) (kf : ¬ x = 0 → Fx q d sh nx lv st hp r hp0) : Fx q d sh pc lv (.int x :: st) hp r hp0 := by
  obtain ⟨h1, h2, h3⟩ := okJ_s h
  subst h3
  exact fun p l e s m args below meth c D cy ad ct C ls H locs hh => lv_if_eq C.1.1 C.1.2.1 h1 h2 (fun z => kt z p l e s m args below meth c D cy ad ct C ls H locs hh) (fun z => kf z p l e s m args below meth c D cy ad ct C ls H locs hh)
theorem Fx.icmp_eq {x y : Int32} (off : Int) (tgt nx : Nat) (h : okJ q pc (.if_icmp .eq off) off tgt nx = true) (kt : x = y → Fx q d sh tgt lv st hp r hp0) (kf : ¬ x = y → Fx q d sh nx lv st hp r hp0) : Fx q d sh pc lv (.int y :: .int x :: st) hp r hp0 := by
  obtain ⟨h1, h2, h3⟩ := okJ_s h
  subst h3
  exact fun p l e s m args below meth c D cy ad ct C ls H locs hh => lv_icmp_eq C.1.1 C.1.2.1 h1 h2 (fun z => kt z p l e s m args below meth c D cy ad ct C ls H locs hh) (fun z => kf z p l e s m args below meth c D cy ad ct C ls H locs hh)
theorem Fx.if_ne {x : Int32} (off : Int) (tgt nx : Nat) (h : okJ q pc (.ifCond .ne off) off tgt nx = true) (kt : ¬ x = 0 → Fx q d sh tgt lv st hp r hp0) (kf : x = 0 → Fx q d sh nx lv st hp r hp0) : Fx q d sh pc lv (.int x :: st) hp r hp0 := by
  obtain ⟨h1, h2, h3⟩ := okJ_s h
  subst h3
  exact fun p l e s m args below meth c D cy ad ct C ls H locs hh => lv_if_ne C.1.1 C.1.2.1 h1 h2 (fun z => kt z p l e s m args below meth c D cy ad ct C ls H locs hh) (fun z => kf z p l e s m args below meth c D cy ad ct C ls H locs hh)
theorem Fx.icmp_ne {x y : Int32} (off : Int) (tgt nx : Nat) (h : okJ q pc (.if_icmp .ne off) off tgt nx = true) (kt : ¬ x = y → Fx q d sh tgt lv st hp r hp0) (kf : x = y → Fx q d sh nx lv st hp r hp0) : Fx q d sh pc lv (.int y :: .int x :: st) hp r hp0 := by
  obtain ⟨h1, h2, h3⟩ := okJ_s h
  subst h3
  exact fun p l e s m args below meth c D cy ad ct C ls H locs hh => lv_icmp_ne C.1.1 C.1.2.1 h1 h2 (fun z => kt z p l e s m args below meth c D cy ad ct C ls H locs hh) (fun z => kf z p l e s m args below meth c D cy ad ct C ls H locs hh)
theorem Fx.if_lt {x : Int32} (off : Int) (tgt nx : Nat) (h : okJ q pc (.ifCond .lt off) off tgt nx = true) (kt : x < 0 → Fx q d sh tgt lv st hp r hp0) (kf : ¬ x < 0 → Fx q d sh nx lv st hp r hp0) : Fx q d sh pc lv (.int x :: st) hp r hp0 := by
  obtain ⟨h1, h2, h3⟩ := okJ_s h
  subst h3
  exact fun p l e s m args below meth c D cy ad ct C ls H locs hh => lv_if_lt C.1.1 C.1.2.1 h1 h2 (fun z => kt z p l e s m args below meth c D cy ad ct C ls H locs hh) (fun z => kf z p l e s m args below meth c D cy ad ct C ls H locs hh)
theorem Fx.icmp_lt {x y : Int32} (off : Int) (tgt nx : Nat) (h : okJ q pc (.if_icmp .lt off) off tgt nx = true) (kt : x < y → Fx q d sh tgt lv st hp r hp0) (kf : ¬ x < y → Fx q d sh nx lv st hp r hp0) : Fx q d sh pc lv (.int y :: .int x :: st) hp r hp0 := by
  obtain ⟨h1, h2, h3⟩ := okJ_s h
  subst h3
  exact fun p l e s m args below meth c D cy ad ct C ls H locs hh => lv_icmp_lt C.1.1 C.1.2.1 h1 h2 (fun z => kt z p l e s m args below meth c D cy ad ct C ls H locs hh) (fun z => kf z p l e s m args below meth c D cy ad ct C ls H locs hh)
theorem Fx.if_ge {x : Int32} (off : Int) (tgt nx : Nat) (h : okJ q pc (.ifCond .ge off) off tgt nx = true) (kt : 0 ≤ x → Fx q d sh tgt lv st hp r hp0) (kf : ¬ 0 ≤ x → Fx q d sh nx lv st hp r hp0) : Fx q d sh pc lv (.int x :: st) hp r hp0 := by
  obtain ⟨h1, h2, h3⟩ := okJ_s h
  subst h3
  exact fun p l e s m args below meth c D cy ad ct C ls H locs hh => lv_if_ge C.1.1 C.1.2.1 h1 h2 (fun z => kt z p l e s m args below meth c D cy ad ct C ls H locs hh) (fun z => kf z p l e s m args below meth c D cy ad ct C ls H locs hh)
theorem Fx.icmp_ge {x y : Int32} (off : Int) (tgt nx : Nat) (h : okJ q pc (.if_icmp .ge off) off tgt nx = true) (kt : y ≤ x → Fx q d sh tgt lv st hp r hp0) (kf : ¬ y ≤ x → Fx q d sh nx lv st hp r hp0) : Fx q d sh pc lv (.int y :: .int x :: st) hp r hp0 := by
  obtain ⟨h1, h2, h3⟩ := okJ_s h
  subst h3
  exact fun p l e s m args below meth c D cy ad ct C ls H locs hh => lv_icmp_ge C.1.1 C.1.2.1 h1 h2 (fun z => kt z p l e s m args below meth c D cy ad ct C ls H locs hh) (fun z => kf z p l e s m args below meth c D cy ad ct C ls H locs hh)
theorem Fx.if_gt {x : Int32} (off : Int) (tgt nx : Nat) (h : okJ q pc (.ifCond .gt off) off tgt nx = true) (kt : 0 < x → Fx q d sh tgt lv st hp r hp0) (kf : ¬ 0 < x → Fx q d sh nx lv st hp r hp0) : Fx q d sh pc lv (.int x :: st) hp r hp0 := by
  obtain ⟨h1, h2, h3⟩ := okJ_s h
  subst h3
  exact fun p l e s m args below meth c D cy ad ct C ls H locs hh => lv_if_gt C.1.1 C.1.2.1 h1 h2 (fun z => kt z p l e s m args below meth c D cy ad ct C ls H locs hh) (fun z => kf z p l e s m args below meth c D cy ad ct C ls H locs hh)
theorem Fx.icmp_gt {x y : Int32} (off : Int) (tgt nx : Nat) (h : okJ q pc (.if_icmp .gt off) off tgt nx = true) (kt : y < x → Fx q d sh tgt lv st hp r hp0) (kf : ¬ y < x → Fx q d sh nx lv st hp r hp0) : Fx q d sh pc lv (.int y :: .int x :: st) hp r hp0 := by
  obtain ⟨h1, h2, h3⟩ := okJ_s h
  subst h3
  exact fun p l e s m args below meth c D cy ad ct C ls H locs hh => lv_icmp_gt C.1.1 C.1.2.1 h1 h2 (fun z => kt z p l e s m args below meth c D cy ad ct C ls H locs hh) (fun z => kf z p l e s m args below meth c D cy ad ct C ls H locs hh)
theorem Fx.if_le {x : Int32} (off : Int) (tgt nx : Nat) (h : okJ q pc (.ifCond .le off) off tgt nx = true) (kt : x ≤ 0 → Fx q d sh tgt lv st hp r hp0) (kf : ¬ x ≤ 0 → Fx q d sh nx lv st hp r hp0) : Fx q d sh pc lv (.int x :: st) hp r hp0 := by
  obtain ⟨h1, h2, h3⟩ := okJ_s h
  subst h3
  exact fun p l e s m args below meth c D cy ad ct C ls H locs hh => lv_if_le C.1.1 C.1.2.1 h1 h2 (fun z => kt z p l e s m args below meth c D cy ad ct C ls H locs hh) (fun z => kf z p l e s m args below meth c D cy ad ct C ls H locs hh)
theorem Fx.icmp_le {x y : Int32} (off : Int) (tgt nx : Nat) (h : okJ q pc (.if_icmp .le off) off tgt nx = true) (kt : x ≤ y → Fx q d sh tgt lv st hp r hp0) (kf : ¬ x ≤ y → Fx q d sh nx lv st hp r hp0) : Fx q d sh pc lv (.int y :: .int x :: st) hp r hp0 := by
  obtain ⟨h1, h2, h3⟩ := okJ_s h
  subst h3
  exact fun p l e s m args below meth c D cy ad ct C ls H locs hh => lv_icmp_le C.1.1 C.1.2.1 h1 h2 (fun z => kt z p l e s m args below meth c D cy ad ct C ls H locs hh) (fun z => kf z p l e s m args below meth c D cy ad ct C ls H locs hh)
/-- fewer locals known -/
theorem Fx.weak {lv' : List (Option Value)} (hl : lv'.length = lv.length) (hw : ∀ i v, lg lv' i = some v → lg lv i = some v) (k : Fx q d sh pc lv' st hp r hp0) : Fx q d sh pc lv st hp r hp0 := fun p l e s m args below meth c D cy ad ct C ls H locs hh => k p l e s m args below meth c D cy ad ct C ls H locs ⟨hh.1.weak hl hw, hh.2⟩
/-- lv' knows no more than lv: place by place -/
def lvle : List (Option Value) → List (Option Value) → Prop
  | [], [] => True
  | none :: t, _ :: u => lvle t u
  | some v :: t, b :: u => b = some v ∧ lvle t u
  | _, _ => False
theorem lvle_s : ∀ {a b : List (Option Value)}, lvle a b → a.length = b.length ∧ ∀ i v, lg a i = some v → lg b i = some v
  | [], [], _ => ⟨rfl, fun i v h => h⟩
  | none :: t, x :: u, h => by
    have h' : lvle t u := by simpa [lvle] using h
    refine ⟨by simp [(lvle_s h').1], fun i v hv => ?_⟩
    cases i with
    | zero => simp [lg] at hv
    | succ i => exact (lvle_s h').2 i v hv
  | some w :: t, x :: u, h => by
    have h' : x = some w ∧ lvle t u := by simpa [lvle] using h
    refine ⟨by simp [(lvle_s h'.2).1], fun i v hv => ?_⟩
    cases i with
    | zero => simp only [lg] at hv ⊢; rw [h'.1]; exact hv
    | succ i => exact (lvle_s h'.2).2 i v hv
  | [], _ :: _, h => by simp [lvle] at h
  | none :: _, [], h => by simp [lvle] at h
  | some _ :: _, [], h => by simp [lvle] at h
theorem Fx.le {lv' : List (Option Value)} (k : Fx q d sh pc lv' st hp r hp0) (h : lvle lv' lv) : Fx q d sh pc lv st hp r hp0 := Fx.weak (lvle_s h).1 (lvle_s h).2 k
/-- switches -/
def okW (q : MI) (pc : Nat) (k : Int32) (tgt : Nat) : Bool := match decode q.2.1 pc with
  | .ok (.tableswitch _ lo hi offs, _) => decide (¬ k.toInt < lo) && (decide (¬ hi < k.toInt) && (match offs[(k.toInt - lo).toNat]? with | some off => decide ((pc : Int) + off = (tgt : Int)) | none => false))
  | .ok (.lookupswitch dflt ps, _) => ((ps.toList.zip (ps.toList.drop 1)).all (fun (a, next) => a.1 < next.1)) && decide ((pc : Int) + Op.lookupswitch.offset ps.toList dflt k.toInt = (tgt : Int))
  | _ => false
def okD (q : MI) (pc : Nat) (ks : List Int32) (tgt : Nat) : Bool := match decode q.2.1 pc with
  | .ok (.tableswitch dflt lo hi _, _) => ((List.range (hi - lo + 1).toNat).all (fun j => ks.any (fun k => decide (k.toInt = lo + (j : Int))))) && decide ((pc : Int) + dflt = (tgt : Int))
  | .ok (.lookupswitch dflt ps, _) => ((ps.toList.zip (ps.toList.drop 1)).all (fun (a, next) => a.1 < next.1)) && ((ps.toList.all (fun p => ks.any (fun k => decide (k.toInt = p.1)))) && decide ((pc : Int) + dflt = (tgt : Int)))
  | _ => false
theorem look_d {x : Int} {dflt : Int} : ∀ (ps : List (Int × Int)), (∀ p ∈ ps, ¬ x = p.1) → Op.lookupswitch.offset ps dflt x = dflt
  | [], _ => by first | rfl | simp [Op.lookupswitch.offset]
  | (a, o) :: t, h => by
    rw [Op.lookupswitch.offset_cons, if_neg (fun e => h (a, o) List.mem_cons_self e.symm)]
    exact look_d t (fun p hp => h p (List.mem_cons_of_mem _ hp))
theorem Fx.swK (k : Int32) (tgt : Nat) (hok : okW q pc k tgt = true) (h : Fx q d sh tgt lv st hp r hp0) : Fx q d sh pc lv (.int k :: st) hp r hp0 := by
  unfold okW at hok
  split at hok
  · rename_i dflt lo hi offs len hd
    simp only [Bool.and_eq_true, decide_eq_true_eq] at hok
    obtain ⟨h1, h2, h3⟩ := hok
    split at h3
    · rename_i off ho
      simp only [decide_eq_true_eq] at h3
      exact Fx.mk1 h (fun _ _ _ _ _ _ _ _ _ _ _ _ _ C _ _ _ _ _ k => lv_tableIn C.1.1 C.1.2.1 hd h1 h2 ho h3 k)
    · cases h3
  · rename_i dflt ps len hd
    simp only [Bool.and_eq_true, decide_eq_true_eq] at hok
    exact Fx.mk1 h (fun _ _ _ _ _ _ _ _ _ _ _ _ _ C _ _ _ _ _ k => lv_lookup C.1.1 C.1.2.1 hd hok.1 rfl hok.2 k)
  · cases hok
theorem Fx.swD {x : Int32} (ks : List Int32) (tgt : Nat) (hok : okD q pc ks tgt = true) (hx : ∀ k ∈ ks, ¬ x = k) (h : Fx q d sh tgt lv st hp r hp0) : Fx q d sh pc lv (.int x :: st) hp r hp0 := by
  unfold okD at hok
  split at hok
  · rename_i dflt lo hi offs len hd
    simp only [Bool.and_eq_true, decide_eq_true_eq] at hok
    have hout : x.toInt < lo ∨ hi < x.toInt := by
      by_cases h1 : x.toInt < lo
      · exact Or.inl h1
      · by_cases h2 : hi < x.toInt
        · exact Or.inr h2
        · have h3 := List.all_eq_true.mp hok.1 ((x.toInt - lo).toNat) (List.mem_range.mpr (by omega))
          obtain ⟨k, hk, he⟩ := List.any_eq_true.mp h3
          simp only [decide_eq_true_eq] at he
          exact absurd (Int32.toInt_inj.mp (by omega)) (hx k hk)
    exact Fx.mk1 h (fun _ _ _ _ _ _ _ _ _ _ _ _ _ C _ _ _ _ _ k => lv_tableOut C.1.1 C.1.2.1 hd hout hok.2 k)
  · rename_i dflt ps len hd
    simp only [Bool.and_eq_true, decide_eq_true_eq] at hok
    have ho : Op.lookupswitch.offset ps.toList dflt x.toInt = dflt := look_d _ (fun p hp e => by
      obtain ⟨k, hk, he⟩ := List.any_eq_true.mp (List.all_eq_true.mp hok.2.1 p hp)
      simp only [decide_eq_true_eq] at he
      exact hx k hk (Int32.toInt_inj.mp (by omega)))
    exact Fx.mk1 h (fun _ _ _ _ _ _ _ _ _ _ _ _ _ C _ _ _ _ _ k => lv_lookup C.1.1 C.1.2.1 hd hok.1 ho hok.2.2 k)
  · cases hok
/-- the ends -/
theorem Fx.iret {v : Int32} (hd : decode q.2.1 pc = .ok (.ireturn, 1)) (hr : q.2.2.2.1 = some .int) : Fx q d sh pc lv [.int v] hp (some (.int v)) hp := fun p l e s m args below meth c D cy ad ct C ls H locs hh =>
  W.iret C.1.1 C.1.2.1 (C.1.2.2.2.1.trans hr) (fun t ht _ => ⟨⟨rfl, by rw [ht]; exact hh.2.1⟩, hh.2.2.F ht⟩) (fun q hq => hh.2.2.2.2 q hq) hd (hlocks := C.1.2.2.2.2.1)
theorem Fx.zret {v : Int32} (hd : decode q.2.1 pc = .ok (.ireturn, 1)) (hr : q.2.2.2.1 = some .boolean) (hv : v = 0 ∨ v = 1) : Fx q d sh pc lv [.int v] hp (some (.int v)) hp := fun p l e s m args below meth c D cy ad ct C ls H locs hh =>
  W.zret C.1.1 C.1.2.1 (C.1.2.2.2.1.trans hr) (by rcases hv with rfl | rfl <;> decide) (fun t ht _ => ⟨⟨rfl, by rw [ht]; exact hh.2.1⟩, hh.2.2.F ht⟩) (fun q hq => hh.2.2.2.2 q hq) hd (hlocks := C.1.2.2.2.2.1)
theorem Fx.lret {v : Int64} (hd : decode q.2.1 pc = .ok (.lreturn, 1)) (hr : q.2.2.2.1 = some .long) : Fx q d sh pc lv [.long v] hp (some (.long v)) hp := fun p l e s m args below meth c D cy ad ct C ls H locs hh =>
  W.lret C.1.1 C.1.2.1 (C.1.2.2.2.1.trans hr) (fun t ht _ => ⟨⟨rfl, by rw [ht]; exact hh.2.1⟩, hh.2.2.F ht⟩) (fun q hq => hh.2.2.2.2 q hq) hd (hlocks := C.1.2.2.2.2.1)
theorem Fx.vret (hd : decode q.2.1 pc = .ok (.return_, 1)) (hr : q.2.2.2.1 = none) : Fx q d sh pc lv [] hp none hp := fun p l e s m args below meth c D cy ad ct C ls H locs hh =>
  W.vret C.1.1 C.1.2.1 (C.1.2.2.2.1.trans hr) (fun t ht _ => ⟨⟨rfl, by rw [ht]; exact hh.2.1⟩, hh.2.2.F ht⟩) (fun q hq => hh.2.2.2.2 q hq) hd (hlocks := C.1.2.2.2.2.1)
theorem Fx.aret {v : Nat} {n : String} (hd : decode q.2.1 pc = .ok (.areturn, 1)) (hr : q.2.2.2.1 = some (.object n)) : Fx q d sh pc lv [.ref v] hp (some (.ref v)) hp := fun p l e s m args below meth c D cy ad ct C ls H locs hh =>
  W.aret C.1.1 C.1.2.1 (C.1.2.2.2.1.trans hr) (Or.inl ⟨n, rfl⟩) (Or.inr ⟨ad v, rfl⟩) (fun t ht _ => ⟨⟨rfl, by rw [ht]; exact hh.2.1⟩, hh.2.2.F ht⟩) (fun q hq => hh.2.2.2.2 q hq) hd (hlocks := C.1.2.2.2.2.1)
end FL
section CG
variable {p : Program} {l : Launch} {e : Env} {R : Room} {s : State} {m : MethodId} {args : Array Value} {below : List Frame} {meth : Method} {c : Code} {H : Heap} {locs : List Loc} {cells slots : Nat} {Q : State → Prop}
theorem callG {pc : Nat} {ls : Array Slot} {rest st0 : List Value} {A0 A1 : Nat → Prop} {H0 : Heap} {free : Addr → Prop} {v : Option Value} {B : Heap → Prop} (hr : va_Run p l e R s m args below meth c H locs cells slots 0 0 (F0 m pc ls st0) rest (fun st oc t => (oc = .returned v ∧ B t.heap) ∧ va_F A1 st t) free) (hS : va_S A0 H0 H locs) (hA : ∀ q, q < H.size → A1 q → A0 q) (hf : ∀ q, free q → A0 q)
    (kk : ∀ (H1 : Heap) (locs1 : List Loc), B H1 → va_S A0 H0 H1 locs1 → W p l e R s m args below meth c H1 locs1 cells slots Q (F0 m (pc + 3) ls (v.toList ++ rest))) : W p l e R s m args below meth c H locs cells slots Q (F0 m pc ls st0) := by
  intro T hT X
  obtain ⟨v', st₀, t, T', L, h0, X', hL, e1, e2, ⟨⟨hv, hb⟩, hz, hk⟩, st⟩ := hr T hT X
  cases hv
  rw [h0] at hz hk
  obtain ⟨t2, a1, b1⟩ := kk T'.heap (locs ++ L) (by rw [e1]; exact hb)
    ⟨Nat.le_trans hS.1 (by rw [e1]; exact hz), fun q h1 h2 => by rw [e1, hk q (Nat.lt_of_lt_of_le h1 hS.1) (fun z => h2 (hA q (Nat.lt_of_lt_of_le h1 hS.1) z))]; exact hS.2.1 q h1 h2, fun q hq => by
      rcases List.mem_append.mp hq with h | h
      · exact hS.2.2 q h
      · exact hf _ (hL q h)⟩ T' rfl X'
  exact ⟨t2, st t2 a1, b1⟩
end CG
theorem gw_in {q q' : MI} (h : mdCode q') : GoodIn (wsM q) (wsM q') := by
  intro w hw
  rcases List.mem_cons.mp hw with rfl | hw
  · exact ⟨List.mem_cons_of_mem _ h, gw_good h⟩
  · exact ⟨List.mem_cons_of_mem _ hw, gw_good hw⟩
theorem preX_blind {as : List Value} {D : va_G} {cy : ClassId × ClassId} {sh : Shp} {ad : Nat → Nat} {ct : Nat} {hp : HP} {sz : Nat} : FrameBlind (va_Pc as (PreX D cy sh ad ct hp sz)) := fun a U g mk q => by
  obtain ⟨q0, q1, q2, q3, q4, q5, q6⟩ := q
  exact ⟨q0, q1, q2, va_K.moved (u := U) (U := U.calling g mk a) (Vm.Alike.refl U.vm) q3, q4, ⟨va_Z.moved (u := U) (U := U.calling g mk a) (Vm.Alike.refl U.vm) q5.1, va_T.moved (u := U) (U := U.calling g mk a) (Vm.Alike.refl U.vm) q5.2⟩, fun w hw => va_Nw.same rfl (u := U) (U := U.calling g mk a) rfl (q6 w hw)⟩
theorem preX_at {q : MI} {D : va_G} {cy : ClassId × ClassId} {sh : Shp} {ad : Nat → Nat} {ct : Nat} {hp : HP} {p : Program} {s : State} {m : MethodId} {args : Array Value} {meth : Method} {c : Code} {H : Heap} {locs : List Loc} {U : State} (C : FxC q sh p s m args meth c D cy ad ct) (hP : va_P D vwCl (wl cy sh ad hp) H) (hS : va_S (AA sh ad s.heap.size) s.heap H locs) (hU : U.heap = H) (hW : s.WarmedH U.vm) : PreX D cy sh ad ct hp H.size U := by
  refine ⟨by rw [hU], by rw [hU]; exact hP, va_K.moved hW.alike C.2.1, C.2.2.1, ?_, fun w hw => va_Nw.warmM hW (C.2.2.2.2 w hw)⟩
  have hn : ∀ x, AA sh ad H.size x → AA sh ad s.heap.size x := fun x hx => hx.elim Or.inl (fun h => Or.inr (Nat.le_trans hS.1 h))
  rw [hU]
  exact ⟨((C.2.2.2.1.1.kept hS.2.1).narrow hn).moved hW.alike, ((C.2.2.2.1.2.kept hS.2.1).narrow hn).moved hW.alike⟩
section FC
variable {q q' : MI} {d d' n idx : Nat} {sh : Shp} {pc : Nat} {lv : List (Option Value)} {hp hp1 : HP} {r : Option Value} {hp0 : HP} {rr : Option Value} {cc : Nat}
theorem cv_sum (ad : Nat → Nat) (ct : Nat) (st : List Value) : ((st.map (cv ad ct)).map fun v => v.category).sum = (st.map fun v => v.category).sum := by
  induction st with
  | nil => rfl
  | cons a t ih => simp only [List.map_cons, List.sum_cons, cv_cat, ih]
theorem Fx.callV (As rest : List Value) (hl : LkV q.2.2.2.2 idx q' n) (hd : decode q.2.1 pc = .ok (.invokevirtual idx, 3)) (hE : Ex d' q' sh (.ref cc :: As) hp rr hp1) (hR : d' + 1 ≤ d ∧ 8 + (q'.2.2.1 + 11) + 40 * d' ≤ 40 * d) (hk : isK sh cc q'.2.2.2.2) (h10 : q'.2.2.2.2 < 10) (hn : As.length = n) (hr : (rest.map fun v => v.category).sum ≤ 8) (k : Fx q d sh (pc + 3) lv (rr.toList ++ rest) hp1 r hp0) : Fx q d sh pc lv (As.reverse ++ .ref cc :: rest) hp r hp0 := by
  intro p l e s m args below meth c D cy ad ct C ls H locs hh
  obtain ⟨⟨l1, l2, l3, l4, l5⟩, l6, l7⟩ := hl
  have hG : GoodIn (wsM q) (wsV (nmC q.2.2.2.2) idx (nmC q'.2.2.2.2) q'.1 (wsM q')) := by
    intro w hw
    unfold wsV at hw
    rcases List.mem_append.mp hw with h | h
    · have hw' : w ∈ GW := by
        rcases List.mem_cons.mp h with rfl | h
        · exact l1
        · rcases List.mem_cons.mp h with rfl | h
          · exact l2
          · rcases List.mem_cons.mp h with rfl | h
            · exact l3
            · rcases List.mem_cons.mp h with rfl | h
              · exact l4
              · cases h
      exact ⟨List.mem_cons_of_mem _ hw', gw_good hw'⟩
    · exact gw_in l5 w h
  have hst : (As.reverse ++ .ref cc :: rest).map (cv ad ct) = (As.map (cv ad ct)).reverse ++ .ref (ad cc) :: rest.map (cv ad ct) := by
    simp only [List.map_append, List.map_reverse, List.map_cons]
    rfl
  rw [hst]
  refine callG (v := rr.map (cv ad ct)) (B := fun H1 => va_P D vwCl (wl cy sh ad hp1) H1) (va_runV (As := As.map (cv ad ct)) (rest := rest.map (cv ad ct)) (b := ad cc) (C := nmC q'.2.2.2.2) ⟨C.1.1, C.1.2.1, C.1.2.2.1, C.1.2.2.2.2.2.1, C.1.2.2.2.2.2.2⟩ (hE l D cy ad ct H.size) (cwV n C.1.2.2.2.2.2.2 hG rfl rfl rfl ⟨l6, l7⟩ hR) ⟨preX_blind, va_recv C.2.1 hh.2.1 (kd_cl h10) (cE_obj hk h10), fun U hU hW => ⟨rfl, preX_at C hh.2.1 hh.2.2 hU hW⟩⟩ rfl (by rw [List.length_map]; exact hn) (hh.1.2.1) rfl (lv_room (by rw [cv_sum]; exact hr)) hd ⟨Nat.le_refl _, Nat.le_refl _⟩) hh.2.2 (fun x hx h => h.elim Or.inl (fun h => absurd h (Nat.not_le.mpr hx))) (fun x h => h.elim Or.inl (fun h => Or.inr (Nat.le_trans hh.2.2.1 h))) (fun H1 locs1 hB hS => ?_)
  have := k p l e s m args below meth c D cy ad ct C ls H1 locs1 ⟨hh.1, hB, hS⟩
  have e1 : (rr.toList ++ rest).map (cv ad ct) = (rr.map (cv ad ct)).toList ++ rest.map (cv ad ct) := by cases rr <;> rfl
  rw [e1] at this
  exact this
theorem Fx.callS (As rest : List Value) (hl : LkS q.2.2.2.2 idx q' n) (hd : decode q.2.1 pc = .ok (.invokestatic idx, 3)) (hE : Ex d' q' sh As hp rr hp1) (hR : d' + 1 ≤ d ∧ 8 + (q'.2.2.1 + 11) + 40 * d' ≤ 40 * d) (hn : As.length = n) (hr : (rest.map fun v => v.category).sum ≤ 8) (k : Fx q d sh (pc + 3) lv (rr.toList ++ rest) hp1 r hp0) : Fx q d sh pc lv (As.reverse ++ rest) hp r hp0 := by
  intro p l e s m args below meth c D cy ad ct C ls H locs hh
  obtain ⟨⟨l1, l2, l3, l4⟩, l5, l6⟩ := hl
  have hG : GoodIn (wsM q) (va_wsS (nmC q.2.2.2.2) idx q'.1 (wsM q')) := by
    intro w hw
    unfold va_wsS at hw
    rw [l5] at hw
    rcases List.mem_append.mp hw with h | h
    · have hw' : w ∈ GW := by
        rcases List.mem_cons.mp h with rfl | h
        · exact l1
        · rcases List.mem_cons.mp h with rfl | h
          · exact l2
          · rcases List.mem_cons.mp h with rfl | h
            · exact l3
            · cases h
      exact ⟨List.mem_cons_of_mem _ hw', gw_good hw'⟩
    · exact gw_in l4 w h
  have hst : (As.reverse ++ rest).map (cv ad ct) = (As.map (cv ad ct)).reverse ++ rest.map (cv ad ct) := by
    simp only [List.map_append, List.map_reverse]
  rw [hst]
  refine callG (v := rr.map (cv ad ct)) (B := fun H1 => va_P D vwCl (wl cy sh ad hp1) H1) (va_runS (As := As.map (cv ad ct)) (rest := rest.map (cv ad ct)) ⟨C.1.1, C.1.2.1, C.1.2.2.1, C.1.2.2.2.2.2.1, C.1.2.2.2.2.2.2⟩ (hE l D cy ad ct H.size) (va_cwS n C.1.2.2.2.2.2.2 hG rfl rfl rfl l6 hR) ⟨preX_blind, fun U hU hW => ⟨rfl, preX_at C hh.2.1 hh.2.2 hU hW⟩⟩ rfl (by rw [List.length_map]; exact hn) (hh.1.2.1) rfl (lv_room (by rw [cv_sum]; exact hr)) hd ⟨Nat.le_refl _, Nat.le_refl _⟩) hh.2.2 (fun x hx h => h.elim Or.inl (fun h => absurd h (Nat.not_le.mpr hx))) (fun x h => h.elim Or.inl (fun h => Or.inr (Nat.le_trans hh.2.2.1 h))) (fun H1 locs1 hB hS => ?_)
  have := k p l e s m args below meth c D cy ad ct C ls H1 locs1 ⟨hh.1, hB, hS⟩
  have e1 : (rr.toList ++ rest).map (cv ad ct) = (rr.map (cv ad ct)).toList ++ rest.map (cv ad ct) := by cases rr <;> rfl
  rw [e1] at this
  exact this
theorem Fx.callN (As rest : List Value) (hl : LkN q.2.2.2.2 idx q' n) (hd : decode q.2.1 pc = .ok (.invokestatic idx, 3)) (hE : Ex d' q' sh As hp rr hp1) (hR : d' + 1 ≤ d ∧ 8 + (q'.2.2.1 + 11) + 40 * d' ≤ 40 * d) (hn : As.length = n) (hr : (rest.map fun v => v.category).sum ≤ 8) (k : Fx q d sh (pc + 3) lv (rr.toList ++ rest) hp1 r hp0) : Fx q d sh pc lv (As.reverse ++ rest) hp r hp0 := by
  intro p l e s m args below meth c D cy ad ct C ls H locs hh
  obtain ⟨⟨l1, l2, l3, l4⟩, l5, l6⟩ := hl
  have hst : (As.reverse ++ rest).map (cv ad ct) = (As.map (cv ad ct)).reverse ++ rest.map (cv ad ct) := by
    simp only [List.map_append, List.map_reverse]
  rw [hst]
  refine callG (v := rr.map (cv ad ct)) (B := fun H1 => va_P D vwCl (wl cy sh ad hp1) H1) (va_runSN (As := As.map (cv ad ct)) (rest := rest.map (cv ad ct)) ⟨C.1.1, C.1.2.1, C.1.2.2.1, C.1.2.2.2.2.2.1, C.1.2.2.2.2.2.2⟩ (hE l D cy ad ct H.size) ⟨va_cnB n C.1.2.2.2.2.2.2 (gw_in l4) rfl rfl rfl (C.2.2.2.2 _ l1) (by rw [l5]; exact C.1.2.2.2.2.2.2 _ (List.mem_cons_of_mem _ l3)) l6 hR, C.1.2.2.2.2.2.2 _ (List.mem_cons_of_mem _ l2), trivial⟩ ⟨preX_blind, fun U hU hW => ⟨rfl, preX_at C hh.2.1 hh.2.2 hU hW⟩⟩ rfl (by rw [List.length_map]; exact hn) (hh.1.2.1) rfl (lv_room (by rw [cv_sum]; exact hr)) hd ⟨Nat.le_refl _, Nat.le_refl _⟩) hh.2.2 (fun x hx h => h.elim Or.inl (fun h => absurd h (Nat.not_le.mpr hx))) (fun x h => h.elim Or.inl (fun h => Or.inr (Nat.le_trans hh.2.2.1 h))) (fun H1 locs1 hB hS => ?_)
  have := k p l e s m args below meth c D cy ad ct C ls H1 locs1 ⟨hh.1, hB, hS⟩
  have e1 : (rr.toList ++ rest).map (cv ad ct) = (rr.map (cv ad ct)).toList ++ rest.map (cv ad ct) := by cases rr <;> rfl
  rw [e1] at this
  exact this
end FC
/-- a method's entry: its locals -/
def entL : List Value → List (Option Value)
  | [] => []
  | v :: vs => if v.category = 2 then some v :: none :: entL vs else some v :: entL vs
theorem entL_mem {ad : Nat → Nat} {ct : Nat} : ∀ (vs : List Value) (k i : Nat) (v : Value), lg (entL vs) i = some v → (k + i, cv ad ct v) ∈ lv_args k (vs.map (cv ad ct))
  | [], k, i, v, h => by simp [entL, lg] at h
  | a :: vs, k, i, v, h => by
    simp only [entL] at h
    simp only [List.map_cons, lv_args, cv_cat]
    by_cases hc : a.category = 2
    · simp only [hc, if_true] at h ⊢
      cases i with
      | zero => simp only [lg, Option.some.injEq] at h; subst h; exact List.mem_cons_self
      | succ i => cases i with
        | zero => simp [lg] at h
        | succ i =>
          simp only [lg] at h
          have := entL_mem (ad := ad) (ct := ct) vs (k + 2) i v h
          rw [show k + (i + 1 + 1) = k + 2 + i by omega]
          exact List.mem_cons_of_mem _ this
    · simp only [hc, if_false] at h ⊢
      cases i with
      | zero => simp only [lg, Option.some.injEq] at h; subst h; exact List.mem_cons_self
      | succ i =>
        simp only [lg] at h
        have := entL_mem (ad := ad) (ct := ct) vs (k + 1) i v h
        rw [show k + (i + 1) = k + 1 + i by omega]
        exact List.mem_cons_of_mem _ this
theorem entL_len (ad : Nat → Nat) (ct : Nat) : ∀ vs : List Value, (lg_sl (vs.map (cv ad ct))).length = (entL vs).length
  | [] => rfl
  | a :: vs => by
    have ih := entL_len ad ct vs
    simp only [lg_sl, List.map_cons, List.flatMap_cons, cv_cat, entL, List.length_append] at ih ⊢
    split <;> simp [ih] <;> omega
theorem lg_app {a : List (Option Value)} {n i : Nat} {v : Value} (h : lg (a ++ List.replicate n none) i = some v) : lg a i = some v := by
  induction a generalizing i with
  | nil =>
    simp only [List.nil_append] at h
    exfalso
    induction n generalizing i with
    | zero => simp [lg] at h
    | succ n ih => cases i with
      | zero => simp [List.replicate_succ, lg] at h
      | succ i => simp only [List.replicate_succ, lg] at h; exact ih h
  | cons x t ih => cases i with
    | zero => simpa [lg] using h
    | succ i => simp only [List.cons_append, lg] at h ⊢; exact ih h
theorem Ex.of {d : Nat} {q : MI} {sh : Shp} {as : List Value} {hp : HP} {r : Option Value} {hp' : HP} (lv : List (Option Value)) (hlv : lv = entL as ++ List.replicate (q.2.2.1 - (entL as).length) none) (hn : (entL as).length ≤ q.2.2.1) (hy : plainName q.1.cls = true) (hcls : q.1.cls = nmC q.2.2.2.2) (h : Fx q d sh 0 lv [] hp r hp') : Ex d q sh as hp r hp' := by
  intro l D cy ad ct sz
  refine Met.ofW (cc := q.2.1) (maxL := q.2.2.1) (ret := q.2.2.2.1) hy rfl ?_
  intro p e s m args below meth c s₁ B hml hv
  obtain ⟨rfl, h1, h2, h3, h4, h5, h6⟩ := hv
  have hts : ∀ w ∈ wsM q, w.before (as.map (cv ad ct)).toArray s = true := atoms_spec (ws := wsM q) B.pre
  have hown : s.vm.findClass (nmC q.2.2.2.2) = some m.cls := by rw [← hcls]; exact findClass_of_methodNamed B.named
  have hl := lv_entry (as.map (cv ad ct)) (n := q.2.2.1) (by rw [entL_len]; exact hn)
  rw [lg_entry_eq]
  subst h1
  refine h p l e s m _ below meth c D cy ad ct ⟨⟨B.exec, B.bytes, hml, B.returns, B.notSynchronized, hown, hts⟩, h3, h4, h5, h6⟩ _ s.heap [] ⟨⟨?_, hl.1, hl.2.1, fun i v hv => ?_⟩, h2, va_S.rf⟩
  · rw [hlv, List.length_append, List.length_replicate]; omega
  · rw [hlv] at hv
    have := entL_mem (ad := ad) (ct := ct) as 0 i v (lg_app hv)
    rw [Nat.zero_add] at this
    exact hl.2.2 _ this
def LkMax (o idx : Nat) : Prop := Cond.methodLink (nmC o) idx Lib.Math.max.name ∈ GW
def LkMin (o idx : Nat) : Prop := Cond.methodLink (nmC o) idx Lib.Math.min.name ∈ GW
def LkCpy (o idx : Nat) : Prop := Cond.methodLink (nmC o) idx arraycopyName ∈ GW
theorem w_maxs : Cond.static Lib.Math.max.name ∈ GW := gwI 529 (by decide +kernel)
theorem w_maxc : Cond.code Lib.Math.max.name Lib.Math.max.code 2 (some .int) ∈ GW := gwI 530 (by decide +kernel)
theorem w_mins : Cond.static Lib.Math.min.name ∈ GW := gwI 461 (by decide +kernel)
theorem w_minc : Cond.code Lib.Math.min.name Lib.Math.min.code 2 (some .int) ∈ GW := gwI 462 (by decide +kernel)
theorem w_mathi : Cond.initialized "java/lang/Math" ∈ GW := gwI 90 (by decide +kernel)
theorem w_cpys : Cond.static arraycopyName ∈ GW := gwI 850 (by decide +kernel)
theorem w_cpyn : Cond.native arraycopyName ∈ GW := gwI 851 (by decide +kernel)
theorem w_cpyi : Cond.initialized "java/lang/System" ∈ GW := gwI 91 (by decide +kernel)
theorem lk_1_97 : LkMin 1 97 := gwI 460 (by decide +kernel)
theorem lk_1_120 : LkMax 1 120 := gwI 528 (by decide +kernel)
theorem lk_5_101 : LkMax 5 101 := gwI 548 (by decide +kernel)
theorem lk_5_107 : LkMin 5 107 := gwI 556 (by decide +kernel)
theorem lk_2_54 : LkMax 2 54 := gwI 603 (by decide +kernel)
theorem lk_2_71 : LkMin 2 71 := gwI 620 (by decide +kernel)
theorem lk_3_27 : LkMax 3 27 := gwI 767 (by decide +kernel)
theorem lk_7_21 : LkCpy 7 21 := gwI 849 (by decide +kernel)
theorem lk_4_31 : LkCpy 4 31 := gwI 882 (by decide +kernel)
theorem lk_6_22 : LkCpy 6 22 := gwI 887 (by decide +kernel)
theorem lk_1_27 : LkCpy 1 27 := gwI 892 (by decide +kernel)
theorem lk_8_262 : LkMax 8 262 := gwI 909 (by decide +kernel)
section FM
variable {q : MI} {d idx : Nat} {sh : Shp} {pc : Nat} {lv : List (Option Value)} {hp : HP} {r : Option Value} {hp0 : HP} {rest : List Value}
theorem Fx.mmax {x y : Int32} (hl : LkMax q.2.2.2.2 idx) (hd : decode q.2.1 pc = .ok (.invokestatic idx, 3)) (h1 : 1 ≤ d) (hr : (rest.map fun v => v.category).sum ≤ 8) (k : Fx q d sh (pc + 3) lv (.int (if x < y then y else x) :: rest) hp r hp0) : Fx q d sh pc lv (.int y :: .int x :: rest) hp r hp0 :=
  Fx.mk1 k (fun _ _ _ _ _ _ _ _ _ _ _ _ _ C _ _ _ hh _ k => va_mmax C.1.1 C.1.2.1 (C.1.2.2.1.trans hh.1.2.1.symm) C.1.2.2.2.2.2.1 (C.1.2.2.2.2.2.2 _ (List.mem_cons_of_mem _ hl)) (C.1.2.2.2.2.2.2 _ (List.mem_cons_of_mem _ w_maxs)) (C.1.2.2.2.2.2.2 _ (List.mem_cons_of_mem _ w_mathi)) (C.1.2.2.2.2.2.2 _ (List.mem_cons_of_mem _ w_maxc)) h1 (by rw [cv_sum]; show _ ≤ 40 * d; omega) (Nat.le_refl _) (Nat.le_refl _) hd k)
theorem Fx.mmin {x y : Int32} (hl : LkMin q.2.2.2.2 idx) (hd : decode q.2.1 pc = .ok (.invokestatic idx, 3)) (h1 : 1 ≤ d) (hr : (rest.map fun v => v.category).sum ≤ 8) (k : Fx q d sh (pc + 3) lv (.int (if y < x then y else x) :: rest) hp r hp0) : Fx q d sh pc lv (.int y :: .int x :: rest) hp r hp0 :=
  Fx.mk1 k (fun _ _ _ _ _ _ _ _ _ _ _ _ _ C _ _ _ hh _ k => va_mmin C.1.1 C.1.2.1 (C.1.2.2.1.trans hh.1.2.1.symm) C.1.2.2.2.2.2.1 (C.1.2.2.2.2.2.2 _ (List.mem_cons_of_mem _ hl)) (C.1.2.2.2.2.2.2 _ (List.mem_cons_of_mem _ w_mins)) (C.1.2.2.2.2.2.2 _ (List.mem_cons_of_mem _ w_mathi)) (C.1.2.2.2.2.2.2 _ (List.mem_cons_of_mem _ w_minc)) h1 (by rw [cv_sum]; show _ ≤ 40 * d; omega) (Nat.le_refl _) (Nat.le_refl _) hd k)
/-- the first n of the ints of cell c0 come to cell c1 -/
def cpA (hp : HP) (c0 c1 n : Nat) : HP := (fun a b => if a = c1 ∧ b < n then hp.1 c0 b else hp.1 a b, hp.2)
theorem cE_cpA_ne {cy : ClassId × ClassId} {ad : Nat → Nat} {c0 c1 n : Nat} {i : Nat} (h : i ≠ c1) : cE cy sh ad (cpA hp c0 c1 n) i = cE cy sh ad hp i := by
  have e1 : (cpA hp c0 c1 n).1 i = hp.1 i := by funext b; simp [cpA, h]
  have e2 : fv sh ad (cpA hp c0 c1 n) i = fv sh ad hp i := by funext k; simp only [fv, e1]
  simp only [cE, e1, e2, show (cpA hp c0 c1 n).2 = hp.2 from rfl]
theorem Fx.copy {c0 c1 N0 N1 N : Nat} {nn : Int32} (hl : LkCpy q.2.2.2.2 idx) (hd : decode q.2.1 pc = .ok (.invokestatic idx, 3)) (h1 : 1 ≤ d) (hr : (rest.map fun v => v.category).sum ≤ 8) (h0 : isA sh c0 10 N0) (h2 : isA sh c1 10 N1) (hn : nn.toNatClampNeg = N) (hnn : ¬ nn < 0) (hN : N ≤ N0 ∧ N ≤ N1) (k : Fx q d sh (pc + 3) lv rest (cpA hp c0 c1 N) r hp0) : Fx q d sh pc lv (.int nn :: .int 0 :: .ref c1 :: .int 0 :: .ref c0 :: rest) hp r hp0 := by
  refine Fx.mkH k (fun _ _ _ _ _ _ _ _ _ _ _ ad ct C ls _ _ hl' hP hS _ k => va_copyi (ty := .int) C.1.1 C.1.2.1 (C.1.2.2.1.trans hl'.2.1.symm) C.1.2.2.2.2.2.1 (C.1.2.2.2.2.2.2 _ (List.mem_cons_of_mem _ hl)) (C.1.2.2.2.2.2.2 _ (List.mem_cons_of_mem _ w_cpyn)) (C.1.2.2.2.2.2.2 _ (List.mem_cons_of_mem _ w_cpys)) (C.1.2.2.2.2.2.2 _ (List.mem_cons_of_mem _ w_cpyi)) C.2.1 hP (wl_D C.2.2.1) hS c0 c1 0 0 (cE_ints h0) (cE_ints h2) rfl rfl rfl (by decide) (by decide) hnn ?_ ?_ (fun i hi => rfl) h1 ?_ hd (fun H1 locs1 a b cc => k H1 locs1 ?_ cc))
  · rw [hn, show ((0 : Int32).toNatClampNeg) = 0 by decide]; omega
  · rw [hn, show ((0 : Int32).toNatClampNeg) = 0 by decide]; omega
  · rw [cv_sum, show nativeFrameWords "java/lang/System" "arraycopy" 5 = 7 by decide]; show _ ≤ 40 * d; omega
  · rw [wl_ext (hp' := cpA hp c0 c1 N) h2.1 ?_ (fun i hi => cE_cpA_ne hi)] at a
    · exact a
    · have e1 : (cpA hp c0 c1 N).1 c1 = va_cpy (hp.1 c0) (hp.1 c1) (0 : Int32).toNatClampNeg (0 : Int32).toNatClampNeg nn.toNatClampNeg := by
        funext b
        rw [hn, show ((0 : Int32).toNatClampNeg) = 0 by decide]
        by_cases hb : b < N
        · rw [pk_cpy_in (by omega) (by omega)]; simp [cpA, hb]
        · rw [pk_cpy_out (by omega)]; simp [cpA, hb]
      simp only [cE, h2.2.1, h2.2.2, if_true, e1]
end FM
