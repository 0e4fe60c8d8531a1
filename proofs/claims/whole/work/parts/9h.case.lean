/-! one call of the script, on both sides -/
def okTwo (pc : Nat) (ks : List (Nat × Bool)) (iX iM p1 p2 : Nat) : Bool := decide (decode code pc = .ok (.aload_n 1, 1)) && (okArgs (pc + 1) ks p1 && (decide (decode code p1 = .ok (.invokevirtual iX, 3)) && (decide (decode code (p1 + 3) = .ok (.aload_n 2, 1)) && (okArgs (p1 + 3 + 1) ks p2 && decide (decode code p2 = .ok (.invokevirtual iM, 3))))))
section LC
variable {p : Program} {l : Launch} {e : Env} {s : State} {m : MethodId} {below : List Frame} {meth : Method} {c : Code} {b L : Nat} {xs : Nat → Int32} {D : va_G} {cy : ClassId × ClassId} {ct : Nat} {H : Heap} {locs : List Loc} {cells slots : Nat} {Q : State → Prop} {ls : Array Slot} {pc i : Nat} {aX aK aM : Nat → Nat} {K : Bool} {vk : Value} {h kk mm : HP}
/-- the law's locals -/
abbrev LLs (ls : Array Slot) (b : Nat) (aX aM : Nat → Nat) (i : Nat) : Prop := lv_has ls 4 [(0, .ref b), (1, .ref (aX 0)), (2, .ref (aM 0)), (3, .int (nI i))]
def fitR (d : Nat) (q : MI) : Bool := decide (d + 1 ≤ 12) && decide (8 + (q.2.2.1 + 11) + 40 * d ≤ 476)
set_option maxHeartbeats 400000 in
theorem fitR_s {d : Nat} {q : MI} (h : fitR d q = true) : d + 1 ≤ room_1.frames ∧ 8 + (q.2.2.1 + 11) + 40 * d ≤ room_1.locals := by
  have h2 : d + 1 ≤ 12 ∧ 8 + (q.2.2.1 + 11) + 40 * d ≤ 476 := by simpa only [fitR, Bool.and_eq_true, decide_eq_true_eq] using h
  exact h2
set_option maxHeartbeats 2000000 in
theorem law_two (C : LCx p s m meth c b L xs D cy ct) (w : LWd D cy s K vk aX aK aM h kk mm H locs) (hl : LLs ls b aX aM i) (hL : L ≤ 3584) (hi : i + 7 ≤ L) {qX qM : MI} {dX dM iX iM p1 p2 n : Nat} (ks : List (Nat × Bool)) {r : Value} {h' m' : HP} (eX : Ex dX qX (shTJ vk) (.ref 0 :: ks.map (fun q => Value.int (av xs i q))) h (some r) h') (eM : Ex dM qM shMo (.ref 0 :: ks.map (fun q => Value.int (av xs i q))) mm (some r) m') (lX : LkL iX qX n) (lM : LkL iM qM n) (hX8 : qX.2.2.2.2 = 8) (hM9 : qM.2.2.2.2 = 9) (hlen : ks.length = n) (hks : ks.all (fun q => decide (q.1 < 7)) = true) (hr : isNum r) (hok : okTwo pc ks iX iM p1 p2 = true) (fX : fitR dX qX = true) (fM : fitR dM qM = true) (hc : cells ≤ room_1.cells ∧ slots ≤ room_1.slots)
    (k : ∀ (H1 : Heap) (locs1 : List Loc), LWd D cy s K vk aX aK aM h' kk m' H1 locs1 → W p l e room_1 s m #[Value.ref b] below meth c H1 locs1 cells slots Q (F0 m (p2 + 3) ls [r, r])) : W p l e room_1 s m #[Value.ref b] below meth c H locs cells slots Q (F0 m pc ls []) := by
  simp only [okTwo, Bool.and_eq_true, decide_eq_true_eq] at hok
  obtain ⟨o1, o2, o3, o4, o5, o6⟩ := hok
  have hin : ∀ q ∈ ks, i + q.1 < L := fun q hq => by
    have := of_decide_eq_true (List.all_eq_true.mp hks q hq)
    omega
  refine lv_aload_n C.1.1 C.1.2.1 o1 rfl (lv_at hl 1 rfl) ?_
  refine law_args C w.2.2.2.2 (lv_at hl 0 rfl) (lv_at hl 3 rfl) hL ks (pc + 1) _ o2 hin ?_
  refine law_X C w eX lX hX8 (ints_cv _ _ _ _) (by rw [List.length_map]; exact hlen) hr hl.1 (Nat.le_of_ble_eq_true rfl) o3 (fitR_s fX) hc (fun H1 locs1 w1 => ?_)
  refine lv_aload_n C.1.1 C.1.2.1 o4 rfl (lv_at hl 2 rfl) ?_
  refine law_args C w1.2.2.2.2 (lv_at hl 0 rfl) (lv_at hl 3 rfl) hL ks (p1 + 3 + 1) _ o5 hin ?_
  refine law_M C w1 eM lM hM9 (ints_cv _ _ _ _) (by rw [List.length_map]; exact hlen) hr hl.1 ?_ o6 (fitR_s fM) hc k
  have := hr.cat
  simp only [List.map_cons, List.map_nil, List.sum_cons, List.sum_nil]
  omega
/-- what comes behind a call -/
def LKo (p : Program) (l : Launch) (e : Env) (s : State) (m : MethodId) (below : List Frame) (meth : Method) (c : Code) (b : Nat) (D : va_G) (cy : ClassId × ClassId) (aX aM : Nat → Nat) (ls : Array Slot) (cells slots : Nat) (Q : State → Prop) : Prop := ∀ (K : Bool) (vk : Value) (aK : Nat → Nat) (h kk mm : HP) (H : Heap) (locs : List Loc), LWd D cy s K vk aX aK aM h kk mm H locs → RA K kk h mm → W p l e room_1 s m #[Value.ref b] below meth c H locs (cells + 31) (slots + 2573) Q (F0 m 1483 ls [])
set_option maxHeartbeats 2000000 in
theorem law_int (C : LCx p s m meth c b L xs D cy ct) (w : LWd D cy s K vk aX aK aM h kk mm H locs) (hl : LLs ls b aX aM i) (hL : L ≤ 3584) (hi : i + 7 ≤ L) {qX qM : MI} {dX dM iX iM p1 p2 n : Nat} (ks : List (Nat × Bool)) (off : Int) (an : ANS dX dM qX qM (ks.map (fun q => Value.int (av xs i q))) K kk h mm) (lX : LkL iX qX n) (lM : LkL iM qM n) (hX8 : qX.2.2.2.2 = 8) (hM9 : qM.2.2.2.2 = 9) (hlen : ks.length = n) (hks : ks.all (fun q => decide (q.1 < 7)) = true) (hok : okTwo pc ks iX iM p1 p2 = true) (hd : decode code (p2 + 3) = .ok (.if_icmp .eq off, 3)) (hoff : ((p2 + 3 : Nat) : Int) + off = ((1483 : Nat) : Int)) (fX : fitR dX qX = true) (fM : fitR dM qM = true) (hc : cells + 31 ≤ room_1.cells ∧ slots + 2573 ≤ room_1.slots)
    (k : LKo p l e s m below meth c b D cy aX aM ls cells slots Q) : W p l e room_1 s m #[Value.ref b] below meth c H locs cells slots Q (F0 m pc ls []) := by
  obtain ⟨h', m', r, eX, eM, A⟩ := an
  refine law_two C w hl hL hi ks (r := .int r) (eX _ (S_TJ0 vk)) (eM _ S_Mo0) lX lM hX8 hM9 hlen hks (Or.inl ⟨r, rfl⟩) hok fX fM ⟨Nat.le_trans (Nat.le_add_right _ _) hc.1, Nat.le_trans (Nat.le_add_right _ _) hc.2⟩ (fun H1 locs1 w1 => ?_)
  refine lv_icmp_eq (tgt := 1483) C.1.1 C.1.2.1 hd hoff (fun _ => ?_) (fun z => absurd rfl z)
  exact W.widen (Nat.le_add_right _ _) (Nat.le_add_right _ _) (k K vk aK h' kk m' H1 locs1 w1 A)
set_option maxHeartbeats 2000000 in
theorem law_long (C : LCx p s m meth c b L xs D cy ct) (w : LWd D cy s K vk aX aK aM h kk mm H locs) (hl : LLs ls b aX aM i) (hL : L ≤ 3584) (hi : i + 7 ≤ L) {qX qM : MI} {dX dM iX iM p1 p2 n : Nat} (ks : List (Nat × Bool)) (off : Int) (an : ANL dX dM qX qM (ks.map (fun q => Value.int (av xs i q))) K kk h mm) (lX : LkL iX qX n) (lM : LkL iM qM n) (hX8 : qX.2.2.2.2 = 8) (hM9 : qM.2.2.2.2 = 9) (hlen : ks.length = n) (hks : ks.all (fun q => decide (q.1 < 7)) = true) (hok : okTwo pc ks iX iM p1 p2 = true) (hd0 : decode code (p2 + 3) = .ok (.lcmp, 1)) (hd : decode code (p2 + 3 + 1) = .ok (.ifCond .eq off, 3)) (hoff : ((p2 + 3 + 1 : Nat) : Int) + off = ((1483 : Nat) : Int)) (fX : fitR dX qX = true) (fM : fitR dM qM = true) (hc : cells + 31 ≤ room_1.cells ∧ slots + 2573 ≤ room_1.slots)
    (k : LKo p l e s m below meth c b D cy aX aM ls cells slots Q) : W p l e room_1 s m #[Value.ref b] below meth c H locs cells slots Q (F0 m pc ls []) := by
  obtain ⟨h', m', r, eX, eM, A⟩ := an
  refine law_two C w hl hL hi ks (r := .long r) (eX _ (S_TJ0 vk)) (eM _ S_Mo0) lX lM hX8 hM9 hlen hks (Or.inr ⟨r, rfl⟩) hok fX fM ⟨Nat.le_trans (Nat.le_add_right _ _) hc.1, Nat.le_trans (Nat.le_add_right _ _) hc.2⟩ (fun H1 locs1 w1 => ?_)
  refine W.lcmp C.1.1 C.1.2.1 hd0 ?_
  have e0 : lg_cmp r r = 0 := by simp [lg_cmp]
  rw [e0]
  refine lv_if_eq (tgt := 1483) C.1.1 C.1.2.1 hd hoff (fun _ => ?_) (fun z => absurd rfl z)
  exact W.widen (Nat.le_add_right _ _) (Nat.le_add_right _ _) (k K vk aK h' kk m' H1 locs1 w1 A)
end LC
