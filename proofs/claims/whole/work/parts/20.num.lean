/-! numbers, folds, rows as both sides hold them -/
theorem ixn {x : Int32} {k : Nat} (h : x = nI k) (hk : k < 2 ^ 31) : ix x = k := by rw [h]; exact nI_clamp hk
theorem inbn {x : Int32} {k N : Nat} (h : x = nI k) (hk : k < N) (hN : N < 2 ^ 31) : inb x N := by
  rw [h]; simp only [inb, nI_toInt (Nat.lt_trans hk hN)]; omega
theorem ix_nI {k : Nat} (hk : k < 2 ^ 31) : ix (nI k) = k := nI_clamp hk
theorem inb_nI {k N : Nat} (hk : k < N) (hN : N < 2 ^ 31) : inb (nI k) N := inbn rfl hk hN
theorem upI_s (h : HP) (c j k : Nat) (v : Int32) : (upI h c j v).1 c k = if k = j then v else h.1 c k := by simp [upI]
theorem upI_ne (h : HP) {c a : Nat} (j k : Nat) (v : Int32) (ha : a ≠ c) : (upI h c j v).1 a k = h.1 a k := by simp [upI, ha]
theorem upI_2 (h : HP) (c j : Nat) (v : Int32) : (upI h c j v).2 = h.2 := rfl
theorem upJ_1 (h : HP) (c j : Nat) (v : Int64) : (upJ h c j v).1 = h.1 := rfl
/-- a fold over 0 .. n - 1 -/
def fI {A : Type} (st : Nat → A → A) : Nat → A → A
  | 0, a => a
  | n + 1, a => st n (fI st n a)
/-- how many below n -/
def cN (p : Nat → Bool) : Nat → Nat
  | 0 => 0
  | n + 1 => cN p n + (if p n then 1 else 0)
theorem cN_le (p : Nat → Bool) : ∀ n, cN p n ≤ n
  | 0 => Nat.le_refl 0
  | n + 1 => by have := cN_le p n; simp only [cN]; split <;> omega
theorem cN_congr {p q : Nat → Bool} : ∀ n, (∀ i, i < n → p i = q i) → cN p n = cN q n
  | 0, _ => rfl
  | n + 1, h => by simp only [cN]; rw [cN_congr n (fun i hi => h i (by omega)), h n (by omega)]
theorem fI_congr {A : Type} {f g : Nat → A → A} {a : A} : ∀ n, (∀ i x, i < n → f i x = g i x) → fI f n a = fI g n a
  | 0, _ => rfl
  | n + 1, h => by simp only [fI]; rw [fI_congr n (fun i x hi => h i x (by omega)), h n _ (by omega)]
/-- a row's number k of a side, in the reference's row of numbers -/
def fld (w : Nat → Int32) (s r k : Nat) : Int32 := w (4 + 5 * (40 * s + r) + k)
def nS (w : Nat → Int32) (s : Nat) : Nat := ix (w (2 + s))
def sp (w : Nat → Int32) (s r : Nat) : Int32 := 2 * fld w s r 2
def ep (w : Nat → Int32) (s r : Nat) : Int32 := if fld w s r 3 = fld w s r 2 then 2 * fld w s r 3 + 1 else 2 * fld w s r 3
def kK (s e t f : Int32) : Int32 := if e < t then 0 else if e = t then 1 else if f < s then 12 else if f = s then 11 else if s = t then (if e < f then 3 else if e = f then 6 else 9) else if e = f then (if s < t then 7 else 5) else if s < t then (if e < f then 2 else 8) else if e < f then 4 else 10
def bit (v k : Int32) : Bool := decide (((v >>> (k &&& 31)) &&& 1) = 1)
def part (w : Nat → Int32) (l r : Nat) : Bool := (decide (w 0 = 0) || decide (fld w 0 l 1 = fld w 1 r 1)) && bit (w 1) (kK (sp w 0 l) (ep w 0 l) (sp w 1 r) (ep w 1 r))
/-- a row of a side and one of the other side -/
def prt (w : Nat → Int32) (s r o : Nat) : Bool := if s = 0 then part w r o else part w o r
theorem and1 (x : Int32) : x &&& 1 = 0 ∨ x &&& 1 = 1 := by
  have h := pk_and x (m := 1) 1 (by decide)
  rcases Nat.mod_two_eq_zero_or_one x.toBitVec.toNat with h2 | h2
  · left; rw [h, show (2 : Nat) ^ 1 = 2 from rfl, h2]; rfl
  · right; rw [h, show (2 : Nat) ^ 1 = 2 from rfl, h2]; rfl
theorem M_kindOf (s e t f : Int32) : f_Mo_kindOf s e t f = some (kK s e t f) := by
  unfold f_Mo_kindOf kK; grind
theorem X_kind (s e t f : Int32) : f_TJ_kindByPlaces s e t f = some (kK s e t f) := by
  unfold f_TJ_kindByPlaces kK; simp only [f_TJ_byEnds]; grind
theorem M_has (v k : Int32) : f_Mo_has v k = some (if bit v k then 1 else 0) := by
  unfold f_Mo_has bit; simp only [decide_eq_true_eq]; split <;> rfl
theorem X_holds (v k : Int32) : f_TJ_holds v k = some (if bit v k then 1 else 0) := by
  unfold f_TJ_holds bit
  simp only [decide_eq_true_eq]
  rcases and1 (v >>> (k &&& 31)) with h | h <;> rw [h] <;> rfl
theorem M_isIn (v a b : Int32) : f_Mo_isIn v a b = some (if a ≤ v ∧ v ≤ b then 1 else 0) := by
  unfold f_Mo_isIn; grind
theorem M_less (a b : Int32) : f_Mo_less a b = some (if b < a then b else a) := by unfold f_Mo_less; grind
theorem M_more (a b : Int32) : f_Mo_more a b = some (if a < b then b else a) := by unfold f_Mo_more; grind
theorem M_time (a : Int32) : f_Mo_time a = some (a >>> (1 &&& 31)) := rfl
theorem X_timeOf (a : Int32) : f_TJ_timeOf a = some (a >>> (1 &&& 31)) := rfl
theorem M_isSide (v : Int32) : f_Mo_isSide v = some (if v = 0 ∨ v = 1 then 1 else 0) := by
  unfold f_Mo_isSide; rw [M_isIn]; simp only [Option.bind_some]; grind
theorem X_isSide (v : Int32) : f_TJ_isSide v = some (if v = 0 ∨ v = 1 then 1 else 0) := by
  unfold f_TJ_isSide; grind
theorem M_isKey (v : Int32) : f_Mo_isKey v = some (if 0 ≤ v ∧ v ≤ 9 then 1 else 0) := by
  unfold f_Mo_isKey; rw [M_isIn]; simp only [Option.bind_some]; grind
theorem X_isKey (v : Int32) : f_TJ_isKey v = some (if 0 ≤ v ∧ v ≤ 9 then 1 else 0) := by
  unfold f_TJ_isKey; grind
section MO
variable {h : HP} {s r k : Nat}
theorem M_of (hs : s < 2) (hr : r < 40) (hk : k < 5) {v1 v2 v3 : Int32} (e1 : v1 = nI s) (e2 : v2 = nI r) (e3 : v3 = nI k) : f_Mo_of 0 h v1 v2 v3 = some (fld (h.1 1) s r k) := by
  have e : (4 + (5 * ((40 * v1) + v2))) + v3 = nI (4 + 5 * (40 * s + r) + k) := by
    rw [e1, e2, e3]; simp only [← nI_add, ← pk_mul]; rfl
  unfold f_Mo_of f_Mo_at
  simp only [Option.bind_some]
  rw [if_pos (inbn e (by omega) (by omega)), ixn e (by omega)]
  rfl
theorem M_start (hs : s < 2) (hr : r < 40) {v1 v2 : Int32} (e1 : v1 = nI s) (e2 : v2 = nI r) : f_Mo_startOf 0 h v1 v2 = some (sp (h.1 1) s r) := by
  unfold f_Mo_startOf; rw [M_of hs hr (k := 2) (v3 := 2) (by omega) e1 e2 rfl]; rfl
theorem M_end (hs : s < 2) (hr : r < 40) {v1 v2 : Int32} (e1 : v1 = nI s) (e2 : v2 = nI r) : f_Mo_endOf 0 h v1 v2 = some (ep (h.1 1) s r) := by
  unfold f_Mo_endOf ep; rw [M_of hs hr (k := 3) (v3 := 3) (by omega) e1 e2 rfl, M_of hs hr (k := 2) (v3 := 2) (by omega) e1 e2 rfl]
  simp only [Option.bind_some]
  split
  · rfl
  · simp
theorem M_long (hs : s < 2) (hr : r < 40) {v1 v2 : Int32} (e1 : v1 = nI s) (e2 : v2 = nI r) : f_Mo_longOf 0 h v1 v2 = some (fld (h.1 1) s r 3 - fld (h.1 1) s r 2) := by
  unfold f_Mo_longOf; rw [M_of hs hr (k := 3) (v3 := 3) (by omega) e1 e2 rfl, M_of hs hr (k := 2) (v3 := 2) (by omega) e1 e2 rfl]; rfl
theorem M_kindB {s2 r2 : Nat} (hs : s < 2) (hr : r < 40) (hs2 : s2 < 2) (hr2 : r2 < 40) {v1 v2 v3 v4 : Int32} (e1 : v1 = nI s) (e2 : v2 = nI r) (e3 : v3 = nI s2) (e4 : v4 = nI r2) : f_Mo_kindBetween 0 h v1 v2 v3 v4 = some (kK (sp (h.1 1) s r) (ep (h.1 1) s r) (sp (h.1 1) s2 r2) (ep (h.1 1) s2 r2)) := by
  unfold f_Mo_kindBetween
  rw [M_start hs hr e1 e2, M_end hs hr e1 e2, M_start hs2 hr2 e3 e4, M_end hs2 hr2 e3 e4]
  simp only [Option.bind_some, M_kindOf]
theorem M_keyed {l r : Nat} (hl : l < 40) (hr : r < 40) : f_Mo_isKeyed 0 h (nI l) (nI r) = some (if h.1 1 0 = 0 ∨ fld (h.1 1) 0 l 1 = fld (h.1 1) 1 r 1 then 1 else 0) := by
  unfold f_Mo_isKeyed
  rw [M_of (s := 0) (v1 := 0) (by omega) hl (k := 1) (v3 := 1) (by omega) rfl rfl rfl, M_of (s := 1) (v1 := 1) (by omega) hr (k := 1) (v3 := 1) (by omega) rfl rfl rfl, show ix 0 = 0 by decide]
  simp only [Option.bind_some, Nat.zero_add]
  split
  · simp [*]
  · split <;> simp [*]
theorem M_part {l r : Nat} (hl : l < 40) (hr : r < 40) : f_Mo_arePartners 0 h (nI l) (nI r) = some (if part (h.1 1) l r then 1 else 0) := by
  unfold f_Mo_arePartners
  rw [M_keyed hl hr, M_kindB (s := 0) (v1 := 0) (s2 := 1) (v3 := 1) (by omega) hl (by omega) hr rfl rfl rfl rfl, show ix 1 = 1 by decide]
  simp only [Option.bind_some, M_has, Nat.zero_add]
  by_cases h1 : h.1 1 0 = 0 ∨ fld (h.1 1) 0 l 1 = fld (h.1 1) 1 r 1
  · have e : part (h.1 1) l r = bit (h.1 1 1) (kK (sp (h.1 1) 0 l) (ep (h.1 1) 0 l) (sp (h.1 1) 1 r) (ep (h.1 1) 1 r)) := by
      have : (decide (h.1 1 0 = 0) || decide (fld (h.1 1) 0 l 1 = fld (h.1 1) 1 r 1)) = true := by simpa using h1
      unfold part; rw [this, Bool.true_and]
    rw [if_pos h1, if_neg (by decide), e]
    split <;> rfl
  · have e : part (h.1 1) l r = false := by
      have : (decide (h.1 1 0 = 0) || decide (fld (h.1 1) 0 l 1 = fld (h.1 1) 1 r 1)) = false := by simpa using h1
      unfold part; rw [this, Bool.false_and]
    rw [if_neg h1, if_pos rfl, e]
    rfl
theorem M_prt {o : Nat} (hs : s < 2) (hr : r < 40) (ho : o < 40) : f_Mo_isPartner 0 h (nI s) (nI r) (nI o) = some (if prt (h.1 1) s r o then 1 else 0) := by
  unfold f_Mo_isPartner prt
  rcases (show s = 0 ∨ s = 1 by omega) with rfl | rfl
  · rw [if_pos (show nI 0 = 0 from rfl), M_part hr ho, if_pos rfl]
    simp only [Option.bind_some]
    split <;> rfl
  · rw [if_neg (show ¬ nI 1 = 0 by decide), M_part ho hr, if_neg (show ¬ 1 = 0 by decide)]
    simp only [Option.bind_some]
    split <;> rfl
end MO
