/-! lane: bits of a long (from kit/laws/BITS.to-paste), the least that is free -/
set_option maxHeartbeats 400000 in
theorem wb_tb (n : Nat) : (lN n).toBitVec = BitVec.ofNat 64 n := rfl
set_option maxHeartbeats 400000 in
theorem wb_inj {a b : Int64} (h : a.toBitVec = b.toBitVec) : a = b := Int64.toBitVec_inj.mp h
set_option maxHeartbeats 400000 in
theorem wb_c : ∀ k, k < 64 → ((nI k).toInt64 &&& 63) = lN k := by decide +kernel
set_option maxHeartbeats 400000 in
theorem wb_sm : ∀ k, k < 64 → (BitVec.ofNat 64 k).smod 64 = BitVec.ofNat 64 k := by decide +kernel
set_option maxHeartbeats 400000 in
theorem wb_shl (n : Nat) {k : Nat} (hk : k < 64) : lN n <<< ((nI k).toInt64 &&& 63) = lN (n * 2 ^ k) := by
  rw [wb_c k hk]
  apply wb_inj
  rw [Int64.toBitVec_shiftLeft, wb_tb, wb_tb, wb_tb, wb_sm k hk]
  apply BitVec.eq_of_toNat_eq
  rw [BitVec.shiftLeft_eq', BitVec.toNat_shiftLeft, BitVec.toNat_ofNat, BitVec.toNat_ofNat, BitVec.toNat_ofNat, Nat.mod_eq_of_lt (show k < 2 ^ 64 by omega), Nat.shiftLeft_eq, Nat.mul_mod, Nat.mod_mod, ← Nat.mul_mod]
set_option maxHeartbeats 400000 in
theorem wb_or {a b : Nat} (ha : a < 2 ^ 64) (hb : b < 2 ^ 64) : lN a ||| lN b = lN (a ||| b) := by
  apply wb_inj
  rw [Int64.toBitVec_or, wb_tb, wb_tb, wb_tb]
  apply BitVec.eq_of_toNat_eq
  rw [BitVec.toNat_or, BitVec.toNat_ofNat, BitVec.toNat_ofNat, BitVec.toNat_ofNat, Nat.mod_eq_of_lt ha, Nat.mod_eq_of_lt hb, Nat.mod_eq_of_lt (Nat.or_lt_two_pow ha hb)]
set_option maxHeartbeats 400000 in
theorem pf_shr {a d : Nat} {D : Int64} (hD : (D.toBitVec.smod 64).toNat = d) (h : a < 2 ^ 62) : lN a >>> D = lN (a / 2 ^ d) := by
  have hd : a / 2 ^ d ≤ a := Nat.div_le_self _ _
  apply Int64.toInt_inj.mp
  have e : (lN a >>> D).toInt = (lN a).toInt >>> d := by
    rw [← hD]
    exact BitVec.toInt_sshiftRight ..
  rw [e, Int.shiftRight_eq_div_pow, pk_lT (by omega), pk_lT (by omega)]
  rfl
set_option maxHeartbeats 400000 in
theorem lN_and1 (v : Nat) : lN v &&& 1 = lN (v % 2) := by
  refine Int64.toBitVec_inj.mp ?_
  rw [Int64.toBitVec_and]
  refine BitVec.eq_of_toNat_eq ?_
  rw [BitVec.toNat_and]
  show (BitVec.ofNat 64 v).toNat &&& 1 = (BitVec.ofNat 64 (v % 2)).toNat
  rw [BitVec.toNat_ofNat, BitVec.toNat_ofNat, show (1 : Nat) = 2 ^ 1 - 1 from rfl, Nat.and_two_pow_sub_one_eq_mod]
  omega
set_option maxHeartbeats 400000 in
theorem bit_t {a c : Nat} (ha : a < 2 ^ 62) (hc : c < 64) : lg_cmp ((lN a >>> (Int32.toInt64 (nI c) &&& 63)) &&& 1) 0 = 0 ↔ a.testBit c = false := by
  rw [lg_cmp_eq, wb_c c hc, pf_shr (d := c) (by rw [wb_tb, wb_sm c hc, BitVec.toNat_ofNat]; exact Nat.mod_eq_of_lt (by omega)) ha, lN_and1, Nat.testBit_eq_decide_div_mod_eq]
  rw [show (0 : Int64) = lN 0 from rfl, pk_lEQ (by omega) (by omega)]
  simp only [decide_eq_false_iff_not]
  omega
def anyN (p : Nat → Bool) : Nat → Bool
  | 0 => false
  | n + 1 => anyN p n || p n
set_option maxHeartbeats 400000 in
theorem anyN_iff {p : Nat → Bool} : ∀ n, anyN p n = true ↔ ∃ i, i < n ∧ p i = true
  | 0 => ⟨fun h => by simp [anyN] at h, fun ⟨i, hi, _⟩ => by omega⟩
  | n + 1 => by
    simp only [anyN, Bool.or_eq_true, anyN_iff n]
    constructor
    · rintro (⟨i, hi, h⟩ | h)
      · exact ⟨i, by omega, h⟩
      · exact ⟨n, by omega, h⟩
    · rintro ⟨i, hi, h⟩
      rcases (show i < n ∨ i = n by omega) with z | z
      · exact Or.inl ⟨i, z, h⟩
      · exact Or.inr (z ▸ h)
set_option maxHeartbeats 400000 in
theorem anyN_congr {p r : Nat → Bool} : ∀ n, (∀ i, i < n → p i = r i) → anyN p n = anyN r n
  | 0, _ => rfl
  | n + 1, h => by simp only [anyN]; rw [anyN_congr n (fun i hi => h i (by omega)), h n (by omega)]
def lsF (P : Nat → Bool) : Nat → Nat
  | 0 => 0
  | n + 1 => if lsF P n < n then lsF P n else if P n then n + 1 else n
set_option maxHeartbeats 400000 in
theorem lsF_le (P : Nat → Bool) : ∀ n, lsF P n ≤ n
  | 0 => Nat.le_refl 0
  | n + 1 => by
    have := lsF_le P n
    simp only [lsF]; split
    · omega
    · split <;> omega
set_option maxHeartbeats 400000 in
theorem lsF_lo (P : Nat → Bool) : ∀ n c, c < lsF P n → P c = true
  | 0, c, h => by simp [lsF] at h
  | n + 1, c, h => by
    have ih := lsF_lo P n
    have hl := lsF_le P n
    simp only [lsF] at h
    by_cases z : lsF P n < n
    · rw [if_pos z] at h; exact ih c h
    · rw [if_neg z] at h
      by_cases y : P n = true
      · rw [if_pos y] at h
        rcases (show c < lsF P n ∨ c = n by omega) with x | x
        · exact ih c x
        · rw [x]; exact y
      · rw [if_neg y] at h; exact ih c (by omega)
set_option maxHeartbeats 400000 in
theorem lsF_at (P : Nat → Bool) : ∀ n, lsF P n < n → P (lsF P n) = false
  | 0, h => by simp [lsF] at h
  | n + 1, h => by
    have ih := lsF_at P n
    have hl := lsF_le P n
    simp only [lsF] at h ⊢
    by_cases z : lsF P n < n
    · rw [if_pos z]; exact ih z
    · rw [if_neg z] at h ⊢
      by_cases y : P n = true
      · rw [if_pos y] at h; omega
      · rw [if_neg y]; exact Bool.eq_false_iff.mpr y
set_option maxHeartbeats 400000 in
theorem lsF_ub {P : Nat → Bool} {n t : Nat} (h : P t = false) : lsF P n ≤ t := by
  rcases Nat.lt_or_ge t (lsF P n) with z | z
  · rw [lsF_lo P n t z] at h; cases h
  · exact z
def laF (sh : Nat → Nat → Bool) : Nat → Nat → Nat
  | 0, _ => 0
  | t + 1, u => if u = t then lsF (fun c => anyN (fun v => sh t v && decide (laF sh t v = c)) t) 40 else laF sh t u
def la (sh : Nat → Nat → Bool) (u : Nat) : Nat := laF sh (u + 1) u
set_option maxHeartbeats 400000 in
theorem laF_la (sh : Nat → Nat → Bool) : ∀ t u, u < t → laF sh t u = la sh u
  | 0, u, h => by omega
  | t + 1, u, h => by
    rcases (show u < t ∨ u = t by omega) with z | z
    · rw [← laF_la sh t u z]; simp only [laF]; rw [if_neg (by omega)]
    · rw [z]; rfl
set_option maxHeartbeats 400000 in
theorem la_eq (sh : Nat → Nat → Bool) (t : Nat) : la sh t = lsF (fun c => anyN (fun v => sh t v && decide (la sh v = c)) t) 40 := by
  have e : la sh t = lsF (fun c => anyN (fun v => sh t v && decide (laF sh t v = c)) t) 40 := by
    show laF sh (t + 1) t = _
    simp only [laF, if_true]
  rw [e]
  congr 1
  funext c
  exact anyN_congr t (fun v hv => by rw [laF_la sh t v hv])
set_option maxHeartbeats 400000 in
theorem la_free (sh : Nat → Nat → Bool) {t : Nat} (hh : ∀ u, u < t → la sh u ≤ u) : anyN (fun v => sh t v && decide (la sh v = t)) t = false := by
  rw [Bool.eq_false_iff]
  intro h
  obtain ⟨v, hv, e⟩ := (anyN_iff t).mp h
  simp only [Bool.and_eq_true, decide_eq_true_eq] at e
  have := hh v hv
  omega
set_option maxHeartbeats 400000 in
theorem la_le (sh : Nat → Nat → Bool) : ∀ n t, t < n → la sh t ≤ t
  | 0, t, h => by omega
  | n + 1, t, h => by
    have ih := la_le sh n
    rw [la_eq]
    exact lsF_ub (la_free sh (fun u hu => ih u (by omega)))
set_option maxHeartbeats 400000 in
theorem la_ub (sh : Nat → Nat → Bool) (t : Nat) : la sh t ≤ t := la_le sh (t + 1) t (by omega)
set_option maxHeartbeats 400000 in
theorem la_lo (sh : Nat → Nat → Bool) {t c : Nat} (h : c < la sh t) : anyN (fun v => sh t v && decide (la sh v = c)) t = true := by
  rw [la_eq] at h
  exact lsF_lo _ 40 c h
set_option maxHeartbeats 400000 in
theorem la_at (sh : Nat → Nat → Bool) {t : Nat} (ht : t < 40) : anyN (fun v => sh t v && decide (la sh v = la sh t)) t = false := by
  have h1 := la_ub sh t
  have h2 := lsF_at (fun c => anyN (fun v => sh t v && decide (la sh v = c)) t) 40
  rw [← la_eq] at h2
  exact h2 (by omega)
def shr (w : Nat → Int32) (s a b : Nat) : Bool := decide (sp w s a < ep w s b) && decide (sp w s b < ep w s a)
set_option maxHeartbeats 400000 in
theorem X_doShare {h : HP} {cc : Nat} {w : Nat → Int32} {s n a b : Nat} (V : RV h cc w s n) (ha : a < n) (hb : b < n) : f_Ro_doShare cc h (nI a) (nI b) = some (if shr w s a b then 1 else 0) := by
  unfold f_Ro_doShare shr
  rw [X_start V ha, X_end V ha, X_start V hb, X_end V hb]
  simp only [Option.bind_some, Bool.and_eq_true, decide_eq_true_eq]
  by_cases z : ep w s b ≤ sp w s a
  · rw [if_pos z, if_neg (fun y => absurd y.1 (Int32.not_lt.mpr z))]
  · rw [if_neg z]
    by_cases y : ep w s a ≤ sp w s b
    · rw [if_pos y, if_neg (fun x => absurd x.2 (Int32.not_lt.mpr y))]
    · rw [if_neg y, if_pos ⟨Int32.not_le.mp z, Int32.not_le.mp y⟩]
set_option maxHeartbeats 400000 in
theorem kK_in {s e t f : Int32} (h1 : s < e) (h2 : t < f) : (2 ≤ kK s e t f ∧ kK s e t f ≤ 10) ↔ (s < f ∧ t < e) := by
  constructor
  · intro h
    by_cases c : t < e ∧ s < f
    · exact ⟨c.2, c.1⟩
    · rcases kK_share c with e | e | e | e <;> rw [e] at h <;> exact absurd h (by decide)
  · rintro ⟨a, b⟩
    unfold kK
    rw [if_neg (Int32.not_lt.mpr (Int32.le_of_lt b)), if_neg (fun z => by rw [z] at b; exact Int32.lt_irrefl b), if_neg (Int32.not_lt.mpr (Int32.le_of_lt a)), if_neg (fun z => by rw [z] at a; exact Int32.lt_irrefl a)]
    by_cases c1 : s = t
    · rw [if_pos c1]; split
      · decide
      · split <;> decide
    · rw [if_neg c1]; split
      · split <;> decide
      · split
        · split <;> decide
        · split <;> decide
set_option maxHeartbeats 400000 in
theorem M_doShare {m : HP} {w : Nat → Int32} (hw : m.1 1 = w) (R : RowsOk w) {s a b : Nat} (hs : s < 2) (ha : a < nS w s) (hb : b < nS w s) : f_Mo_doShare 0 m (nI s) (nI a) (nI b) = some (if shr w s a b then 1 else 0) := by
  have hn := (R s hs).2.1
  unfold f_Mo_doShare shr
  rw [M_kindB (h := m) hs (show a < 40 by omega) hs (show b < 40 by omega) rfl rfl rfl rfl, hw]
  simp only [Option.bind_some, M_isIn, Bool.and_eq_true, decide_eq_true_eq]
  have k := kK_in (sp_lt_ep R hs ha) (sp_lt_ep R hs hb)
  by_cases z : sp w s a < ep w s b ∧ sp w s b < ep w s a
  · rw [if_pos (k.mpr z), if_pos z, if_pos (Or.inr rfl)]
  · rw [if_neg (fun y => z (k.mp y)), if_neg z, if_pos (Or.inl rfl)]
set_option maxHeartbeats 400000 in
theorem RLlt {h : HP} {n N : Nat} {q : Nat → Nat} {p : Nat → Bool} {pl : Nat → Int32} (L : RL h n q p pl N) {t : Nat} (ht : t < n) : q t < N := (L.2.1 t ht).1
set_option maxHeartbeats 400000 in
theorem RLinj {h : HP} {n N : Nat} {q : Nat → Nat} {p : Nat → Bool} {pl : Nat → Int32} (L : RL h n q p pl N) {t u : Nat} (ht : t < n) (hu : u < n) (e : q t = q u) : t = u := by
  rcases Nat.lt_trichotomy t u with z | z | z
  · have := L.2.2.1 t u z hu; rw [e] at this; omega
  · exact z
  · have := L.2.2.1 u t z ht; rw [e] at this; omega
set_option maxHeartbeats 400000 in
theorem RLcod {h : HP} {n N : Nat} {q : Nat → Nat} {p : Nat → Bool} {pl : Nat → Int32} (L : RL h n q p pl N) (hN : N ≤ 40) {t : Nat} (ht : t < n) : f_Co_at 32 h (nI t) = some (lN (cdN pl (q t))) ∧ Int64.toInt32 (lN (cdN pl (q t)) &&& 63) = nI (q t) := by
  have := RLlt L ht
  refine ⟨X_cat L.1 ht, ?_⟩
  rw [lN_and, show cdN pl (q t) % 64 = q t by unfold cdN; omega, lN_32 (by omega)]
def orF (sh : Nat → Bool) (l : Nat → Nat) : Nat → Nat
  | 0 => 0
  | u + 1 => if sh u then orF sh l u ||| 2 ^ l u else orF sh l u
set_option maxHeartbeats 400000 in
theorem orF_lt {sh : Nat → Bool} {l : Nat → Nat} : ∀ t, (∀ u, u < t → l u < 40) → orF sh l t < 2 ^ 40
  | 0, _ => by simp [orF]
  | t + 1, h => by
    have ih := orF_lt (sh := sh) t (fun u hu => h u (by omega))
    have := h t (by omega)
    simp only [orF]; split
    · exact Nat.or_lt_two_pow ih (Nat.pow_lt_pow_right (by decide) this)
    · exact ih
set_option maxHeartbeats 400000 in
theorem orF_bit {sh : Nat → Bool} {l : Nat → Nat} (c : Nat) : ∀ t, (orF sh l t).testBit c = anyN (fun v => sh v && decide (l v = c)) t
  | 0 => by simp [orF, anyN]
  | t + 1 => by
    have ih := orF_bit (sh := sh) (l := l) c t
    simp only [orF, anyN]
    by_cases z : sh t = true
    · rw [if_pos z, Nat.testBit_or, ih, Nat.testBit_two_pow, z, Bool.true_and]
    · rw [if_neg z, ih, Bool.eq_false_iff.mpr z, Bool.false_and, Bool.or_false]
section LA
variable {h m : HP} {w : Nat → Int32} {s n : Nat} {q : Nat → Nat} {p : Nat → Bool}
set_option maxHeartbeats 400000 in
theorem X_least68 {a K : Nat} (ha : a < 2 ^ 40) (hK : K ≤ 40) (h1 : ∀ c, c < K → a.testBit c = true) (h2 : K < 40 → a.testBit K = false) : f_TJ_leastLane_l68 0 h (lN a) 0 = some (nI K) := by
  unfold f_TJ_leastLane_l68
  refine loop_up (fun c => nI c) K (fun c hc => ?_) ?_
  · show f_TJ_leastLane_b68 0 h (lN a) (nI c) = _
    unfold f_TJ_leastLane_b68
    rw [if_neg (show ¬ (40 : Int32) ≤ nI c from nI_ge (b := 40) (by omega) (by decide)), if_neg (fun z => by rw [bit_t (by omega) (by omega), h1 c hc] at z; cases z), nI_1]
  · show f_TJ_leastLane_b68 0 h (lN a) (nI K) = _
    unfold f_TJ_leastLane_b68
    rcases (show K < 40 ∨ K = 40 by omega) with z | z
    · rw [if_neg (show ¬ (40 : Int32) ≤ nI K from nI_ge (b := 40) z (by decide)), if_pos ((bit_t (by omega) (by omega)).mpr (h2 z))]; rfl
    · rw [z, if_pos (show (40 : Int32) ≤ nI 40 from nle 40)]; rfl
set_option maxHeartbeats 400000 in
theorem X_least (V : RV h (rc 1 s) w s (nS w s)) (L : RL h n q p (sp w s) (nS w s)) {t : Nat} (ht : t < n) (ht4 : t < 40) (hl : ∀ u, u < t → h.1 41 (q u) = nI (la (fun a b => shr w s (q a) (q b)) u)) : f_TJ_leastLane 0 h (rc 1 s) (nI (q t)) (nI t) = some (nI (la (fun a b => shr w s (q a) (q b)) t)) := by
  have hN := V.1
  have hlt : ∀ u, u < t → la (fun a b => shr w s (q a) (q b)) u < 40 := fun u hu => by
    have := la_ub (fun a b => shr w s (q a) (q b)) u; omega
  have lo := fun c => la_lo (fun a b => shr w s (q a) (q b)) (t := t) (c := c)
  have at' := la_at (fun a b => shr w s (q a) (q b)) ht4
  have ub := la_ub (fun a b => shr w s (q a) (q b)) t
  generalize hla : la (fun a b => shr w s (q a) (q b)) = l at *
  unfold f_TJ_leastLane f_TJ_leastLane_l6
  refine loop_up (fun u => (lN (orF (fun v => shr w s (q t) (q v)) l u), nI u)) t (fun u hu => ?_) ?_
  · show f_TJ_leastLane_b6 0 h (rc 1 s) (nI (q t)) (nI t) (lN (orF (fun v => shr w s (q t) (q v)) l u)) (nI u) = some (Sum.inl (lN (orF (fun v => shr w s (q t) (q v)) l (u + 1)), nI (u + 1)))
    have cu := RLcod L hN (show u < n by omega)
    have qu := RLlt L (show u < n by omega)
    have qt := RLlt L ht
    have o1 := orF_lt (sh := fun v => shr w s (q t) (q v)) (l := l) u (fun v hv => hlt v (by omega))
    unfold f_TJ_leastLane_b6
    rw [if_neg (nI_ge hu (by omega)), Nat.zero_add, cu.1]
    simp only [Option.bind_some]
    rw [cu.2, if_neg (show ¬ (40 : Int32) ≤ nI (q u) from nI_ge (b := 40) (by omega) (by decide)), X_doShare V qt qu, if_pos (inb_nI (show q u < 40 by omega) (by decide)), ix_nI (by omega), hl u hu, nI_1]
    simp only [Option.bind_some, orF]
    by_cases z : shr w s (q t) (q u) = true
    · simp only [if_pos z]
      rw [if_neg one0, show (1 : Int64) = lN 1 from rfl, wb_shl 1 (show l u < 64 by have := hlt u hu; omega), Nat.one_mul, wb_or (by omega) (Nat.lt_trans (Nat.pow_lt_pow_right (by decide) (hlt u hu)) (by decide))]
    · simp only [if_neg z, if_true]
  · show f_TJ_leastLane_b6 0 h (rc 1 s) (nI (q t)) (nI t) (lN (orF (fun v => shr w s (q t) (q v)) l t)) (nI t) = _
    unfold f_TJ_leastLane_b6
    rw [if_pos (nle _), X_least68 (K := l t) (orF_lt t hlt) (by omega) (fun c hc => by rw [orF_bit]; exact lo c hc) (fun _ => by rw [orF_bit]; exact at')]
    rfl
end LA
