/-! sets of kinds as numbers below 8192, bit by bit -/
section OF
variable {p : Nat → Bool} {c : Nat → Nat}
set_option maxHeartbeats 400000 in
theorem orf_bit (i : Nat) : ∀ n, (fI (fun k y => if p k then y ||| c k else y) n 0).testBit i = anyN (fun k => p k && (c k).testBit i) n
  | 0 => by simp only [fI, anyN, Nat.zero_testBit]
  | n + 1 => by
    have ih := orf_bit i n
    simp only [fI, anyN]
    by_cases z : p n = true
    · rw [if_pos z, Nat.testBit_or, ih, z, Bool.true_and]
    · rw [if_neg z, ih, Bool.eq_false_iff.mpr z, Bool.false_and, Bool.or_false]
set_option maxHeartbeats 400000 in
theorem orf_lt {B : Nat} : ∀ n, (∀ k, k < n → c k < 2 ^ B) → fI (fun k y => if p k then y ||| c k else y) n 0 < 2 ^ B
  | 0, _ => Nat.two_pow_pos B
  | n + 1, h => by
    have ih := orf_lt n (fun k hk => h k (by omega))
    simp only [fI]
    by_cases z : p n = true
    · rw [if_pos z]; exact Nat.or_lt_two_pow ih (h n (by omega))
    · rw [if_neg z]; exact ih
set_option maxHeartbeats 400000 in
theorem orf_nI : ∀ n, (∀ k, k < n → c k < 2 ^ 13) → fI (fun k (x : Int32) => if p k then x ||| nI (c k) else x) n 0 = nI (fI (fun k y => if p k then y ||| c k else y) n 0)
  | 0, _ => rfl
  | n + 1, h => by
    have ih := orf_nI n (fun k hk => h k (by omega))
    have l := orf_lt (p := p) (c := c) (B := 13) n (fun k hk => h k (by omega))
    have l2 := h n (by omega)
    simp only [fI]
    rw [ih]
    by_cases z : p n = true
    · rw [if_pos z, if_pos z, nI_or (by omega) (by omega)]
    · rw [if_neg z, if_neg z]
end OF
set_option maxHeartbeats 400000 in
theorem smod31 : ∀ k, k < 13 → ((nI k &&& 31).toBitVec.smod 32).toNat = k := by decide +kernel
set_option maxHeartbeats 400000 in
theorem bit_nI {x k : Nat} (hx : x < 8192) (hk : k < 13) : bit (nI x) (nI k) = x.testBit k := by
  unfold bit
  have hd := Nat.div_le_self x (2 ^ k)
  rw [pk_shrN (by omega) _ k (smod31 k hk), pk_andN (by omega) 1 (by decide), Nat.testBit_eq_decide_div_mod_eq]
  refine decide_eq_decide.mpr ?_
  rw [show (2 : Nat) ^ 1 = 2 from rfl]
  exact nI_eq (b := 1) (by omega) (by omega)
def cwN (x : Nat) : Nat := fI (fun k y => if x.testBit k then y ||| 2 ^ (12 - k) else y) 13 0
set_option maxHeartbeats 400000 in
theorem shl12 : ∀ k, k < 13 → (1 : Int32) <<< ((12 - nI k) &&& 31) = nI (2 ^ (12 - k)) := by decide +kernel
set_option maxHeartbeats 400000 in
theorem cvT_nI {x : Nat} (hx : x < 8192) : cvT (nI x) = nI (cwN x) := by
  unfold cvT cwN
  rw [← orf_nI 13 (fun k _ => Nat.pow_lt_pow_right (by decide) (by omega))]
  exact fI_congr 13 (fun k y hk => by rw [bit_nI hx hk, shl12 k hk])
set_option maxHeartbeats 400000 in
theorem cwN_lt (x : Nat) : cwN x < 8192 := orf_lt (B := 13) 13 (fun k _ => Nat.pow_lt_pow_right (by decide) (by omega))
set_option maxHeartbeats 400000 in
theorem cwN_bit (x : Nat) {i : Nat} (hi : i < 13) : (cwN x).testBit i = x.testBit (12 - i) := by
  unfold cwN
  rw [orf_bit]
  have eq : ∀ {a b : Bool}, (a = true ↔ b = true) → a = b := fun {a b} h => by cases a <;> cases b <;> simp_all
  refine eq ?_
  rw [anyN_iff]
  constructor
  · rintro ⟨k, hk, z⟩
    rw [Nat.testBit_two_pow, Bool.and_eq_true, decide_eq_true_eq] at z
    rw [show 12 - i = k by omega]; exact z.1
  · intro z
    refine ⟨12 - i, by omega, ?_⟩
    rw [z, Bool.true_and, Nat.testBit_two_pow]
    exact decide_eq_true (by omega)
set_option maxRecDepth 20000 in
set_option maxHeartbeats 400000 in
theorem cmpN_lt : ∀ j, j < 169 → cmpN j < 2 ^ 13 := by decide +kernel
def coN (a v : Nat) : Nat := fI (fun b y => if v.testBit b then y ||| cmpN (13 * a + b) else y) 13 0
def cpN (u v : Nat) : Nat := fI (fun a y => if u.testBit a then y ||| coN a v else y) 13 0
set_option maxHeartbeats 400000 in
theorem coN_lt {a : Nat} (ha : a < 13) (v : Nat) : coN a v < 2 ^ 13 := orf_lt (B := 13) 13 (fun b _ => cmpN_lt _ (by omega))
set_option maxHeartbeats 400000 in
theorem cmO_nI {a v : Nat} (ha : a < 13) (hv : v < 8192) : cmO a (nI v) = nI (coN a v) := by
  unfold cmO coN
  rw [← orf_nI 13 (fun b _ => cmpN_lt _ (by omega))]
  exact fI_congr 13 (fun b y hb => by rw [bit_nI hv hb, cmpN_ok _ (by omega)])
set_option maxHeartbeats 400000 in
theorem cmS_nI {u v : Nat} (hu : u < 8192) (hv : v < 8192) : cmS (nI u) (nI v) = nI (cpN u v) := by
  unfold cmS cpN
  rw [← orf_nI 13 (fun a ha => coN_lt ha v)]
  exact fI_congr 13 (fun a y ha => by rw [bit_nI hu ha, cmO_nI ha hv])
set_option maxHeartbeats 400000 in
theorem cpN_lt (u v : Nat) : cpN u v < 8192 := orf_lt (B := 13) 13 (fun a ha => coN_lt ha v)
set_option maxHeartbeats 400000 in
theorem cpN_bit (u v i : Nat) : (cpN u v).testBit i = true ↔ ∃ a b, a < 13 ∧ b < 13 ∧ u.testBit a = true ∧ v.testBit b = true ∧ (cmpN (13 * a + b)).testBit i = true := by
  unfold cpN
  rw [orf_bit, anyN_iff]
  constructor
  · rintro ⟨a, ha, z⟩
    rw [Bool.and_eq_true] at z
    have z2 := z.2
    unfold coN at z2
    rw [orf_bit, anyN_iff] at z2
    obtain ⟨b, hb, y⟩ := z2
    rw [Bool.and_eq_true] at y
    exact ⟨a, b, ha, hb, z.1, y.1, y.2⟩
  · rintro ⟨a, b, ha, hb, z1, z2, z3⟩
    refine ⟨a, ha, ?_⟩
    rw [z1, Bool.true_and]
    unfold coN
    rw [orf_bit, anyN_iff]
    exact ⟨b, hb, by rw [z2, z3]; rfl⟩
/-- one set within another -/
def sub (x y : Nat) : Prop := ∀ i, i < 13 → x.testBit i = true → y.testBit i = true
set_option maxHeartbeats 400000 in
theorem sub.rf (x : Nat) : sub x x := fun _ _ h => h
set_option maxHeartbeats 400000 in
theorem sub.tr {x y z : Nat} (a : sub x y) (b : sub y z) : sub x z := fun i hi h => b i hi (a i hi h)
set_option maxHeartbeats 400000 in
theorem sub.eq {x y : Nat} (hx : x < 8192) (hy : y < 8192) (a : sub x y) (b : sub y x) : x = y := by
  apply Nat.eq_of_testBit_eq
  intro i
  by_cases hi : i < 13
  · have eq : ∀ {a b : Bool}, (a = true ↔ b = true) → a = b := fun {a b} h => by cases a <;> cases b <;> simp_all
    exact eq ⟨a i hi, b i hi⟩
  · rw [Nat.testBit_lt_two_pow (Nat.lt_of_lt_of_le hx (show 2 ^ 13 ≤ 2 ^ i from Nat.pow_le_pow_right (by decide) (by omega))), Nat.testBit_lt_two_pow (Nat.lt_of_lt_of_le hy (show 2 ^ 13 ≤ 2 ^ i from Nat.pow_le_pow_right (by decide) (by omega)))]
set_option maxHeartbeats 400000 in
theorem cpN_mono {u v u' v' : Nat} (a : sub u u') (b : sub v v') : sub (cpN u v) (cpN u' v') := fun i _ h => by
  obtain ⟨x, y, hx, hy, z1, z2, z3⟩ := (cpN_bit u v i).mp h
  exact (cpN_bit u' v' i).mpr ⟨x, y, hx, hy, a x hx z1, b y hy z2, z3⟩
set_option maxHeartbeats 400000 in
theorem cwN_mono {u v : Nat} (a : sub u v) : sub (cwN u) (cwN v) := fun i hi h => by
  rw [cwN_bit _ hi] at h ⊢
  exact a _ (by omega) h
set_option maxHeartbeats 400000 in
theorem cwN_cvN {x : Nat} (hx : x < 8192) : cwN (cwN x) = x := by
  refine sub.eq (cwN_lt _) hx (fun i hi h => ?_) (fun i hi h => ?_)
  · rw [cwN_bit _ hi, cwN_bit _ (show 12 - i < 13 by omega), show 12 - (12 - i) = i by omega] at h; exact h
  · rw [cwN_bit _ hi, cwN_bit _ (show 12 - i < 13 by omega), show 12 - (12 - i) = i by omega]; exact h
set_option maxRecDepth 40000 in
set_option maxHeartbeats 400000 in
theorem tab_sym : ∀ a, a < 13 → ∀ b, b < 13 → ∀ c, c < 13 → (cmpN (13 * a + b)).testBit c = (cmpN (13 * (12 - b) + (12 - a))).testBit (12 - c) := by decide +kernel
set_option maxHeartbeats 400000 in
theorem cp_conv (u v : Nat) : sub (cwN (cpN u v)) (cpN (cwN v) (cwN u)) ∧ sub (cpN (cwN v) (cwN u)) (cwN (cpN u v)) := by
  constructor
  · intro i hi h
    rw [cwN_bit _ hi] at h
    obtain ⟨a, b, ha, hb, z1, z2, z3⟩ := (cpN_bit u v (12 - i)).mp h
    refine (cpN_bit _ _ i).mpr ⟨12 - b, 12 - a, by omega, by omega, ?_, ?_, ?_⟩
    · rw [cwN_bit _ (by omega), show 12 - (12 - b) = b by omega]; exact z2
    · rw [cwN_bit _ (by omega), show 12 - (12 - a) = a by omega]; exact z1
    · have := tab_sym a ha b hb (12 - i) (by omega)
      rw [show 12 - (12 - i) = i by omega] at this
      rw [← this]; exact z3
  · intro i hi h
    obtain ⟨a, b, ha, hb, z1, z2, z3⟩ := (cpN_bit _ _ i).mp h
    rw [cwN_bit _ ha] at z1
    rw [cwN_bit _ hb] at z2
    rw [cwN_bit _ hi]
    refine (cpN_bit u v (12 - i)).mpr ⟨12 - b, 12 - a, by omega, by omega, z2, z1, ?_⟩
    have := tab_sym a ha b hb i hi
    rw [← this]; exact z3
set_option maxHeartbeats 400000 in
theorem and_bit (x y i : Nat) : (x &&& y).testBit i = (x.testBit i && y.testBit i) := Nat.testBit_and x y i
set_option maxHeartbeats 400000 in
theorem sub_and {x y z : Nat} (a : sub x y) (b : sub x z) : sub x (y &&& z) := fun i hi h => by rw [and_bit, a i hi h, b i hi h]; rfl
set_option maxHeartbeats 400000 in
theorem and_l (x y : Nat) : sub (x &&& y) x := fun i _ h => by rw [and_bit, Bool.and_eq_true] at h; exact h.1
set_option maxHeartbeats 400000 in
theorem and_r (x y : Nat) : sub (x &&& y) y := fun i _ h => by rw [and_bit, Bool.and_eq_true] at h; exact h.2
set_option maxHeartbeats 400000 in
theorem nI_and {a b : Nat} (ha : a < 2 ^ 32) (hb : b < 2 ^ 32) : nI a &&& nI b = nI (a &&& b) := by
  apply Int32.toBitVec_inj.mp
  rw [Int32.toBitVec_and]
  apply BitVec.eq_of_toNat_eq
  rw [BitVec.toNat_and]
  show (BitVec.ofNat 32 a).toNat &&& (BitVec.ofNat 32 b).toNat = (BitVec.ofNat 32 (a &&& b)).toNat
  rw [BitVec.toNat_ofNat, BitVec.toNat_ofNat, BitVec.toNat_ofNat, Nat.mod_eq_of_lt ha, Nat.mod_eq_of_lt hb, Nat.mod_eq_of_lt (Nat.and_lt_two_pow _ hb)]
set_option maxHeartbeats 400000 in
theorem and_lt13 {x y : Nat} (hy : y < 8192) : x &&& y < 8192 := Nat.and_lt_two_pow (n := 13) x hy
