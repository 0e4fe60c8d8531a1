/-! the reference makes its table of all spans of six places: it is the class's -/
def kNn (s e t f : Nat) : Nat := if e < t then 0 else if e = t then 1 else if f < s then 12 else if f = s then 11 else if s = t then (if e < f then 3 else if e = f then 6 else 9) else if e = f then (if s < t then 7 else 5) else if s < t then (if e < f then 2 else 8) else if e < f then 4 else 10
theorem kK_nat {s e t f : Nat} (h1 : s < 6) (h2 : e < 6) (h3 : t < 6) (h4 : f < 6) : kK (nI s) (nI e) (nI t) (nI f) = nI (kNn s e t f) := by
  have lt : ∀ a b, a < 6 → b < 6 → ((nI a < nI b) ↔ a < b) := fun a b ha hb => nI_ltI (by omega) (by omega)
  have eq : ∀ a b, a < 6 → b < 6 → ((nI a = nI b) ↔ a = b) := fun a b ha hb => nI_eq (by omega) (by omega)
  unfold kK kNn
  simp only [lt e t h2 h3, eq e t h2 h3, lt f s h4 h1, eq f s h4 h1, eq s t h1 h3, lt e f h2 h4, eq e f h2 h4, lt s t h1 h3]
  repeat' split
  all_goals rfl
theorem kNn_lt (s e t f : Nat) : kNn s e t f < 13 := by
  unfold kNn; repeat' split
  all_goals decide
/-- the table as one number: thirteen bits a place -/
def tput (s e t f u g x : Nat) : Nat := x ||| 2 ^ (13 * (13 * kNn s e t f + kNn t f u g) + kNn s e u g)
def fdN (a n : Nat) (st : Nat → Nat → Nat) (x : Nat) : Nat := fI (fun i y => st (a + i) y) (n - a) x
def tW (s e t f x : Nat) : Nat := fdN 0 6 (fun u y => fdN (u + 1) 6 (fun g z => tput s e t f u g z) y) x
def tAll (x : Nat) : Nat := fdN 0 6 (fun s y => fdN (s + 1) 6 (fun e z => fdN 0 6 (fun t a => fdN (t + 1) 6 (fun f b => tW s e t f b) a) z) y) x
def cmpN (j : Nat) : Nat := (cmpT j).toBitVec.toNat
set_option maxRecDepth 20000 in
theorem tAll_ok : ∀ j, j < 169 → tAll 0 / 2 ^ (13 * j) % 8192 = cmpN j := by decide +kernel
set_option maxRecDepth 20000 in
theorem cmpN_ok : ∀ j, j < 169 → cmpT j = nI (cmpN j) := by decide +kernel
