/-! the law's world: the class's object, its image, the reference -/
def LA (s : State) : Nat → Prop := fun q => s.heap.size ≤ q
def qL : MI := (x, code, 4, ret, 8)
def LCx (p : Program) (s : State) (m : MethodId) (meth : Method) (c : Code) (b L : Nat) (xs : Nat → Int32) (D : va_G) (cy : ClassId × ClassId) (ct : Nat) : Prop := lw_At p s m meth c b L xs ∧ va_K D vwCl (tys2 cy) s ∧ Zt ct (LA s) s s.heap ∧ NW s
def LIm (D : va_G) (cy : ClassId × ClassId) (s : State) (K : Bool) (vk : Value) (aX aK aM : Nat → Nat) (kk : HP) (H : Heap) : Prop := match K with
  | true => vk = .ref (aK 0) ∧ va_P D vwCl (wl cy shSt aK kk) H ∧ inj shSt aK ∧ (∀ c, c < 31 → s.heap.size ≤ aK c) ∧ (∀ i j, i < 31 → j < 42 → aK i ≠ aX j) ∧ ∀ i j, i < 31 → j < 11 → aK i ≠ aM j
  | false => vk = .null
def LWd (D : va_G) (cy : ClassId × ClassId) (s : State) (K : Bool) (vk : Value) (aX aK aM : Nat → Nat) (h kk mm : HP) (H : Heap) (locs : List Loc) : Prop :=
  (va_P D vwCl (wl cy (shTJ vk) aX h) H ∧ inj (shTJ .null) aX ∧ ∀ c, c < 42 → s.heap.size ≤ aX c) ∧ (va_P D vwCl (wl cy shMo aM mm) H ∧ inj shMo aM ∧ ∀ c, c < 11 → s.heap.size ≤ aM c) ∧ (∀ i j, i < 42 → j < 11 → aX i ≠ aM j) ∧ LIm D cy s K vk aX aK aM kk H ∧ va_S (LA s) s.heap H locs
def LkL (idx : Nat) (q : MI) (n : Nat) : Prop := (Cond.methodLink R_law idx q.1 ∈ GW ∧ Cond.instanceMethod q.1 ∈ GW ∧ Cond.selects (nmC q.2.2.2.2) q.1 q.1 ∈ GW ∧ Cond.initialized (nmC q.2.2.2.2) ∈ GW ∧ mdCode q) ∧ q.1.cls = nmC q.2.2.2.2 ∧ q.1.cls ≠ "java/lang/invoke/MethodHandle" ∧ q.1.cls ≠ "java/lang/invoke/VarHandle" ∧ (parseMethodDescriptor q.1.desc).map (fun d => d.parameters.length) = some n
set_option maxHeartbeats 400000 in
theorem gw_tbl {w : Cond} (h : w ∈ GW) : w ∈ lw_tbl := (List.mem_filter.mp h).1
set_option maxHeartbeats 400000 in
theorem gw_inL {q' : MI} (h : mdCode q') : GoodIn lw_tbl (wsM q') := by
  intro w hw
  rcases List.mem_cons.mp hw with rfl | hw
  · exact ⟨gw_tbl h, gw_good h⟩
  · exact ⟨gw_tbl hw, gw_good hw⟩
set_option maxHeartbeats 400000 in
theorem gw_L {q' : MI} {idx n : Nat} (hl : LkL idx q' n) : GoodIn lw_tbl (wsV R_law idx (nmC q'.2.2.2.2) q'.1 (wsM q')) := by
  obtain ⟨⟨l1, l2, l3, l4, l5⟩, -⟩ := hl
  intro w hw
  unfold wsV at hw
  rcases List.mem_append.mp hw with h | h
  · have hw' : w ∈ GW := by
      rcases List.mem_cons.mp h with rfl | h
      · exact l1
      · rcases List.mem_cons.mp h with rfl | h
        · exact l2
        · rcases List.mem_cons.mp h with rfl | h
          · exact l3
          · rcases List.mem_cons.mp h with rfl | h
            · exact l4
            · cases h
    exact ⟨gw_tbl hw', gw_good hw'⟩
  · exact gw_inL l5 w h
def isNum (r : Value) : Prop := (∃ x, r = .int x) ∨ ∃ x, r = .long x
set_option maxHeartbeats 400000 in
theorem isNum.cv {r : Value} (h : isNum r) (ad : Nat → Nat) (ct : Nat) : cv ad ct r = r := by
  rcases h with ⟨x, rfl⟩ | ⟨x, rfl⟩ <;> rfl
set_option maxHeartbeats 400000 in
theorem isNum.cat {r : Value} (h : isNum r) : r.category ≤ 2 := by
  rcases h with ⟨x, rfl⟩ | ⟨x, rfl⟩ <;> exact Nat.le_of_ble_eq_true rfl
set_option maxHeartbeats 400000 in
theorem ints_cv {α : Type} (f : α → Int32) (ad : Nat → Nat) (ct : Nat) (ks : List α) : (ks.map (fun k => Value.int (f k))).map (cv ad ct) = ks.map (fun k => Value.int (f k)) := by
  rw [List.map_map]; rfl
/-- an item of the script as an argument; true: as a truth value -/
def av (xs : Nat → Int32) (i : Nat) (q : Nat × Bool) : Int32 := if q.2 then (if xs (i + q.1) = 0 then 0 else 1) else xs (i + q.1)
def plen (k : Nat) : Nat := if k = 6 then 2 else 1
def okArg (pc : Nat) (q : Nat × Bool) : Bool := decide (decode code pc = .ok (.aload_n 0, 1)) && (decide (decode code (pc + 1) = .ok (.iload_n 3, 1)) && (pushV qL (pc + 1 + 1) (nI q.1) (plen q.1) && (decide (decode code (pc + 1 + 1 + plen q.1) = .ok (.iadd, 1)) && (decide (decode code (pc + 1 + 1 + plen q.1 + 1) = .ok (.iaload, 1)) && (if q.2 then decide (decode code (pc + 1 + 1 + plen q.1 + 1 + 1) = .ok (.ifCond .eq 7, 3)) && (decide (decode code (pc + 1 + 1 + plen q.1 + 1 + 1 + 3) = .ok (.iconst 1, 1)) && (decide (decode code (pc + 1 + 1 + plen q.1 + 1 + 1 + 3 + 1) = .ok (.goto 4, 3)) && decide (decode code (pc + 1 + 1 + plen q.1 + 1 + 1 + 7) = .ok (.iconst 0, 1)))) else true)))))
def endArg (pc : Nat) (q : Nat × Bool) : Nat := pc + 1 + 1 + plen q.1 + 1 + 1 + (if q.2 then 8 else 0)
def okArgs : Nat → List (Nat × Bool) → Nat → Bool
  | pc, [], e => decide (pc = e)
  | pc, q :: qs, e => okArg pc q && okArgs (endArg pc q) qs e
section LW
variable {p : Program} {l : Launch} {e : Env} {R : Room} {s : State} {m : MethodId} {below : List Frame} {meth : Method} {c : Code} {b L : Nat} {xs : Nat → Int32} {D : va_G} {cy : ClassId × ClassId} {ct : Nat} {H : Heap} {locs : List Loc} {cells slots : Nat} {Q : State → Prop} {ls : Array Slot} {pc i : Nat} {aX aK aM : Nat → Nat} {K : Bool} {vk : Value} {h kk mm : HP}
set_option maxHeartbeats 400000 in
theorem law_arg (C : LCx p s m meth c b L xs D cy ct) (hS : va_S (LA s) s.heap H locs) (hl0 : ls[0]? = some (.val (.ref b))) (hl3 : ls[3]? = some (.val (.int (nI i)))) {q : Nat × Bool} {st : List Value} (hok : okArg pc q = true) (hL : L ≤ 3584) (hi : i + q.1 < L) (k : W p l e R s m #[Value.ref b] below meth c H locs cells slots Q (F0 m (endArg pc q) ls (.int (av xs i q) :: st))) : W p l e R s m #[Value.ref b] below meth c H locs cells slots Q (F0 m pc ls st) := by
  obtain ⟨n, bb⟩ := q
  simp only [okArg, Bool.and_eq_true, decide_eq_true_eq] at hok
  obtain ⟨o1, o2, o3, o4, o5, o6⟩ := hok
  obtain ⟨hx, hb, hr, hml, hown, hts, hX, hbl, hlocks, hgv⟩ := id C.1
  refine lv_aload_n hx hb o1 rfl hl0 ?_
  refine lv_iload_n hx hb o2 rfl hl3 ?_
  refine K_push (q := qL) hx hb o3 ?_
  refine lv_iadd hx hb o4 ?_
  rw [nI_add]
  have hv : (nI (i + n)).toNatClampNeg = i + n := ix_nI (by have : i + n < L := hi; omega)
  refine va_sld hx hb hX hbl (show ¬ LA s b from Nat.not_le.mpr hbl) hS (vp_in_nI hi (by omega)) o5 ?_
  rw [hv]
  cases bb with
  | false => exact k
  | true =>
    simp only [if_true, Bool.and_eq_true, decide_eq_true_eq] at o6
    obtain ⟨o7, o8, o9, o10⟩ := o6
    refine lv_if_eq (tgt := pc + 1 + 1 + plen n + 1 + 1 + 7) hx hb o7 (by omega) (fun z => ?_) (fun z => ?_)
    · refine lv_iconst (v := 0) hx hb o10 rfl ?_
      have e1 : av xs i (n, true) = 0 := by show (if xs (i + n) = 0 then (0 : Int32) else 1) = 0; rw [if_pos z]
      rw [e1] at k
      exact k
    · refine lv_iconst (v := 1) hx hb o8 rfl ?_
      refine lv_goto (tgt := pc + 1 + 1 + plen n + 1 + 1 + 8) hx hb o9 (by omega) ?_
      have e1 : av xs i (n, true) = 1 := by show (if xs (i + n) = 0 then (0 : Int32) else 1) = 1; rw [if_neg z]
      rw [e1] at k
      exact k
set_option maxHeartbeats 400000 in
theorem law_args (C : LCx p s m meth c b L xs D cy ct) (hS : va_S (LA s) s.heap H locs) (hl0 : ls[0]? = some (.val (.ref b))) (hl3 : ls[3]? = some (.val (.int (nI i)))) (hL : L ≤ 3584) {en : Nat} : ∀ (qs : List (Nat × Bool)) (pc : Nat) (st : List Value), okArgs pc qs en = true → (∀ q ∈ qs, i + q.1 < L) → W p l e R s m #[Value.ref b] below meth c H locs cells slots Q (F0 m en ls ((qs.map (fun q => Value.int (av xs i q))).reverse ++ st)) → W p l e R s m #[Value.ref b] below meth c H locs cells slots Q (F0 m pc ls st) := by
  intro qs
  induction qs with
  | nil =>
    intro pc st hok _ k
    have : pc = en := of_decide_eq_true hok
    subst this
    exact k
  | cons q qs ih =>
    intro pc st hok hq k
    have hok : (okArg pc q && okArgs (endArg pc q) qs en) = true := hok
    simp only [Bool.and_eq_true] at hok
    refine law_arg C hS hl0 hl3 hok.1 hL (hq q List.mem_cons_self) ?_
    refine ih (endArg pc q) _ hok.2 (fun r hr => hq r (List.mem_cons_of_mem _ hr)) ?_
    rw [List.map_cons, List.reverse_cons, List.append_assoc] at k
    exact k
set_option maxHeartbeats 400000 in
theorem LCx.fix (C : LCx p s m meth c b L xs D cy ct) : CallFix p m c code 4 s #[Value.ref b] lw_tbl R_law := ⟨C.1.1, C.1.2.1, C.1.2.2.2.1, C.1.2.2.2.2.1, C.1.2.2.2.2.2.1⟩
set_option maxHeartbeats 400000 in
/-- the frame of a world that isn't touched -/
theorem LIm.keep {H1 : Heap} (I : LIm D cy s K vk aX aK aM kk H) (hk : K = true → ∀ c, c < 31 → H1[aK c]? = H[aK c]?) : LIm D cy s K vk aX aK aM kk H1 := by
  cases K with
  | true => exact ⟨I.1, wl_kept I.2.1 (fun c hc => hk rfl c hc), I.2.2⟩
  | false => exact I
set_option maxHeartbeats 2000000 in
/-- a call on the class -/
theorem law_X (C : LCx p s m meth c b L xs D cy ct) (w : LWd D cy s K vk aX aK aM h kk mm H locs) {q' : MI} {d' n idx : Nat} {As rest : List Value} {r : Value} {h' : HP} (hE : Ex d' q' (shTJ vk) (.ref 0 :: As) h (some r) h') (hl : LkL idx q' n) (h8 : q'.2.2.2.2 = 8) (hAs : As.map (cv aX ct) = As) (hlen : As.length = n) (hr : isNum r) (hsz : ls.size = 4) (hrest : (rest.map fun v => v.category).sum ≤ 8) (hd : decode code pc = .ok (.invokevirtual idx, 3)) (hR : d' + 1 ≤ R.frames ∧ 8 + (q'.2.2.1 + 11) + 40 * d' ≤ R.locals) (hc : cells ≤ R.cells ∧ slots ≤ R.slots)
    (k : ∀ (H1 : Heap) (locs1 : List Loc), LWd D cy s K vk aX aK aM h' kk mm H1 locs1 → W p l e R s m #[Value.ref b] below meth c H1 locs1 cells slots Q (F0 m (pc + 3) ls (r :: rest))) : W p l e R s m #[Value.ref b] below meth c H locs cells slots Q (F0 m pc ls (As.reverse ++ .ref (aX 0) :: rest)) := by
  obtain ⟨⟨x1, x2, x3⟩, ⟨m1, m2, m3⟩, ap, im, hS⟩ := w
  have hn : ∀ x, AA (shTJ vk) aX H.size x → LA s x := fun x hx => hx.elim (fun ⟨c, hc, e⟩ => by rw [e]; exact x3 c hc) (fun h => Nat.le_trans hS.1 h)
  have hZ : Zt ct (AA (shTJ vk) aX H.size) s H := ⟨(C.2.2.1.1.kept hS.2.1).narrow hn, (C.2.2.1.2.kept hS.2.1).narrow hn⟩
  have hk0 : isK (shTJ vk) 0 q'.2.2.2.2 := by rw [h8]; exact ⟨Nat.le_of_ble_eq_true rfl, rfl⟩
  have hrun := X_run (l := l) (e := e) (R := R) (below := below) (meth := meth) (locs := locs) (cells := cells) (slots := slots) (ls := ls) (pc := pc) (As := As) (rest := rest) C.fix (gw_L hl) hl.2 C.2.1 x1 x2 hZ C.2.2.2 hE hk0 (by rw [h8]; decide) hlen hsz hrest hd hR hc
  have e1 : (some r).map (cv aX ct) = some r := congrArg some (hr.cv aX ct)
  rw [hAs, e1] at hrun
  have hout : ∀ x, x < H.size → (∀ c, c < 42 → x ≠ aX c) → ¬ AA (shTJ vk) aX H.size x := fun x h1 h2 z => z.elim (fun ⟨c, hc, e⟩ => h2 c hc e) (fun z => by omega)
  refine callG2 (v := some r) (B := fun H1 => va_P D vwCl (wl cy (shTJ vk) aX h') H1) (A1 := AA (shTJ vk) aX H.size) hrun hS (fun x _ z => hn x z) hn (fun H1 locs1 hB hF hS1 => ?_)
  refine k H1 locs1 ⟨⟨hB, x2, x3⟩, ⟨wl_kept m1 (fun c hc => hF.2.1 _ (wl_lt m1 hc) (hout _ (wl_lt m1 hc) (fun i hi z => ap i c hi hc z.symm))), m2, m3⟩, ap, im.keep (fun hK c hc => ?_), hS1⟩
  subst hK
  exact hF.2.1 _ (wl_lt im.2.1 hc) (hout _ (wl_lt im.2.1 hc) (fun i hi z => im.2.2.2.2.1 c i hc hi z))
set_option maxHeartbeats 2000000 in
/-- a call on the reference -/
theorem law_M (C : LCx p s m meth c b L xs D cy ct) (w : LWd D cy s K vk aX aK aM h kk mm H locs) {q' : MI} {d' n idx : Nat} {As rest : List Value} {r : Value} {m' : HP} (hE : Ex d' q' shMo (.ref 0 :: As) mm (some r) m') (hl : LkL idx q' n) (h9 : q'.2.2.2.2 = 9) (hAs : As.map (cv aM ct) = As) (hlen : As.length = n) (hr : isNum r) (hsz : ls.size = 4) (hrest : (rest.map fun v => v.category).sum ≤ 8) (hd : decode code pc = .ok (.invokevirtual idx, 3)) (hR : d' + 1 ≤ R.frames ∧ 8 + (q'.2.2.1 + 11) + 40 * d' ≤ R.locals) (hc : cells ≤ R.cells ∧ slots ≤ R.slots)
    (k : ∀ (H1 : Heap) (locs1 : List Loc), LWd D cy s K vk aX aK aM h kk m' H1 locs1 → W p l e R s m #[Value.ref b] below meth c H1 locs1 cells slots Q (F0 m (pc + 3) ls (r :: rest))) : W p l e R s m #[Value.ref b] below meth c H locs cells slots Q (F0 m pc ls (As.reverse ++ .ref (aM 0) :: rest)) := by
  obtain ⟨⟨x1, x2, x3⟩, ⟨m1, m2, m3⟩, ap, im, hS⟩ := w
  have hn : ∀ x, AA shMo aM H.size x → LA s x := fun x hx => hx.elim (fun ⟨c, hc, e⟩ => by rw [e]; exact m3 c hc) (fun h => Nat.le_trans hS.1 h)
  have hZ : Zt ct (AA shMo aM H.size) s H := ⟨(C.2.2.1.1.kept hS.2.1).narrow hn, (C.2.2.1.2.kept hS.2.1).narrow hn⟩
  have hk0 : isK shMo 0 q'.2.2.2.2 := by rw [h9]; exact ⟨Nat.le_of_ble_eq_true rfl, rfl⟩
  have hrun := X_run (l := l) (e := e) (R := R) (below := below) (meth := meth) (locs := locs) (cells := cells) (slots := slots) (ls := ls) (pc := pc) (As := As) (rest := rest) C.fix (gw_L hl) hl.2 C.2.1 m1 m2 hZ C.2.2.2 hE hk0 (by rw [h9]; decide) hlen hsz hrest hd hR hc
  have e1 : (some r).map (cv aM ct) = some r := congrArg some (hr.cv aM ct)
  rw [hAs, e1] at hrun
  have hout : ∀ x, x < H.size → (∀ c, c < 11 → x ≠ aM c) → ¬ AA shMo aM H.size x := fun x h1 h2 z => z.elim (fun ⟨c, hc, e⟩ => h2 c hc e) (fun z => by omega)
  refine callG2 (v := some r) (B := fun H1 => va_P D vwCl (wl cy shMo aM m') H1) (A1 := AA shMo aM H.size) hrun hS (fun x _ z => hn x z) hn (fun H1 locs1 hB hF hS1 => ?_)
  refine k H1 locs1 ⟨⟨wl_kept x1 (fun c hc => hF.2.1 _ (wl_lt x1 hc) (hout _ (wl_lt x1 hc) (fun j hj z => ap c j hc hj z))), x2, x3⟩, ⟨hB, m2, m3⟩, ap, im.keep (fun hK c hc => ?_), hS1⟩
  subst hK
  exact hF.2.1 _ (wl_lt im.2.1 hc) (hout _ (wl_lt im.2.1 hc) (fun j hj z => im.2.2.2.2.2 c j hc hj z))
end LW
