/-! the class draws the net tight: a pair narrowed -/
def symN (F : Nat → Nat) : Prop := ∀ i k, i < 6 → k < 6 → F (6 * k + i) = cwN (F (6 * i + k))
def nrV (F : Nat → Nat) (i k : Nat) (n : Nat) : Nat := fI (fun j x => if j = i ∨ j = k then x else x &&& cpN (F (6 * i + j)) (F (6 * j + k))) n (F (6 * i + k))
set_option maxHeartbeats 400000 in
theorem nrV_lt {F : Nat → Nat} {i k : Nat} (h : F (6 * i + k) < 8192) : ∀ n, nrV F i k n < 8192
  | 0 => h
  | n + 1 => by
    have ih := nrV_lt h n
    show (if n = i ∨ n = k then nrV F i k n else nrV F i k n &&& cpN (F (6 * i + n)) (F (6 * n + k))) < 8192
    by_cases z : n = i ∨ n = k
    · rw [if_pos z]; exact ih
    · rw [if_neg z]; exact and_lt13 (cpN_lt _ _)
set_option maxHeartbeats 400000 in
theorem nrV_sub {F : Nat → Nat} {i k : Nat} : ∀ n, sub (nrV F i k n) (F (6 * i + k)) ∧ ∀ j, j < n → j ≠ i → j ≠ k → sub (nrV F i k n) (cpN (F (6 * i + j)) (F (6 * j + k)))
  | 0 => ⟨sub.rf _, fun j h => by omega⟩
  | n + 1 => by
    have ih := nrV_sub (F := F) (i := i) (k := k) n
    have e : nrV F i k (n + 1) = if n = i ∨ n = k then nrV F i k n else nrV F i k n &&& cpN (F (6 * i + n)) (F (6 * n + k)) := rfl
    rw [e]
    by_cases z : n = i ∨ n = k
    · rw [if_pos z]
      refine ⟨ih.1, fun j hj h1 h2 => ih.2 j ?_ h1 h2⟩
      rcases (show j < n ∨ j = n by omega) with y | y
      · exact y
      · rcases z with z | z
        · exact absurd (y.trans z) h1
        · exact absurd (y.trans z) h2
    · rw [if_neg z]
      refine ⟨(and_l _ _).tr ih.1, fun j hj h1 h2 => ?_⟩
      rcases (show j < n ∨ j = n by omega) with y | y
      · exact (and_l _ _).tr (ih.2 j y h1 h2)
      · rw [y]; exact and_r _ _
set_option maxHeartbeats 400000 in
theorem nrV_ge {F : Nat → Nat} {i k x : Nat} (h0 : sub x (F (6 * i + k))) : ∀ n, (∀ j, j < n → j ≠ i → j ≠ k → sub x (cpN (F (6 * i + j)) (F (6 * j + k)))) → sub x (nrV F i k n)
  | 0, _ => h0
  | n + 1, h => by
    have ih := nrV_ge h0 n (fun j hj => h j (by omega))
    show sub x (if n = i ∨ n = k then nrV F i k n else nrV F i k n &&& cpN (F (6 * i + n)) (F (6 * n + k)))
    by_cases z : n = i ∨ n = k
    · rw [if_pos z]; exact ih
    · rw [if_neg z]; exact sub_and ih (h n (by omega) (fun e => z (Or.inl e)) (fun e => z (Or.inr e)))
/-- a net turned round -/
def trn (M : Nat → Nat) : Nat → Nat := fun x => cwN (M (6 * (x % 6) + x / 6))
set_option maxHeartbeats 400000 in
theorem trn_at (M : Nat → Nat) {i k : Nat} (hk : k < 6) : trn M (6 * i + k) = cwN (M (6 * k + i)) := by
  unfold trn
  rw [show (6 * i + k) % 6 = k by omega, show (6 * i + k) / 6 = i by omega]
set_option maxHeartbeats 400000 in
theorem trn_cls {M : Nat → Nat} (h : clsd M) : clsd (trn M) := by
  intro i j k hi hj hk h1 h2 h3
  rw [trn_at M hk, trn_at M hj, trn_at M hk]
  exact (cwN_mono (h k j i hk hj hi (Ne.symm h2) (Ne.symm h1) (Ne.symm h3))).tr (cp_conv _ _).1
set_option maxHeartbeats 400000 in
theorem trn_sub {M N : Nat → Nat} (hN : symN N) (h : ∀ j, j < 36 → sub (M j) (N j)) : ∀ j, j < 36 → sub (trn M j) (N j) := by
  intro x hx
  have e : x = 6 * (x / 6) + x % 6 := by omega
  have hs := hN (x % 6) (x / 6) (by omega) (by omega)
  rw [← e] at hs
  rw [hs]
  exact cwN_mono (h _ (by omega))
set_option maxHeartbeats 400000 in
theorem IT_narrow {N F : Nat → Nat} {i k : Nat} (hN : symN N) (H : IT N F) (S : symN F) (hi : i < 6) (hk : k < 6) (ne : i ≠ k) : IT N (tie F i k (nrV F i k 6)) ∧ symN (tie F i k (nrV F i k 6)) := by
  obtain ⟨a, b, c⟩ := H
  have vl := nrV_lt (i := i) (k := k) (a (6 * i + k) (by omega)) 6
  have vs := nrV_sub (F := F) (i := i) (k := k) 6
  refine ⟨⟨fun j hj => ?_, fun j hj => ?_, fun M m1 m2 m3 j hj => ?_⟩, fun x y hx hy => ?_⟩
  · unfold tie
    by_cases z : j = 6 * k + i
    · rw [if_pos z]; exact cwN_lt _
    · rw [if_neg z]
      by_cases y : j = 6 * i + k
      · rw [if_pos y]; exact vl
      · rw [if_neg y]; exact a j hj
  · unfold tie
    by_cases z : j = 6 * k + i
    · rw [if_pos z, z, hN i k hi hk]; exact cwN_mono (vs.1.tr (b _ (by omega)))
    · rw [if_neg z]
      by_cases y : j = 6 * i + k
      · rw [if_pos y, y]; exact vs.1.tr (b _ (by omega))
      · rw [if_neg y]; exact b j hj
  · have low : ∀ M : Nat → Nat, (∀ j, j < 36 → M j < 8192) → clsd M → (∀ j, j < 36 → sub (M j) (N j)) → sub (M (6 * i + k)) (nrV F i k 6) := fun M m1 m2 m3 => by
      have cc := c M m1 m2 m3
      exact nrV_ge (cc _ (by omega)) 6 (fun j hj h1 h2 => (m2 i j k hi hj hk (Ne.symm h1) h2 ne).tr (cpN_mono (cc _ (by omega)) (cc _ (by omega))))
    unfold tie
    by_cases z : j = 6 * k + i
    · rw [if_pos z, z]
      have t := low (trn M) (fun x _ => cwN_lt _) (trn_cls m2) (trn_sub hN m3)
      rw [trn_at M hk] at t
      have u := cwN_mono t
      rw [cwN_cvN (m1 _ (by omega))] at u
      exact u
    · rw [if_neg z]
      by_cases y : j = 6 * i + k
      · rw [if_pos y, y]; exact low M m1 m2 m3
      · rw [if_neg y]; exact c M m1 m2 m3 j hj
  · unfold tie
    by_cases z : 6 * y + x = 6 * k + i
    · rw [if_pos z, if_neg (by omega), if_pos (by omega)]
    · rw [if_neg z]
      by_cases u : 6 * y + x = 6 * i + k
      · rw [if_pos u, if_pos (by omega), cwN_cvN vl]
      · rw [if_neg u, if_neg (by omega), if_neg (by omega)]; exact S x y hx hy
/-- the class's tight net -/
def XT (h0 h : HP) (F : Nat → Nat) : Prop := (∀ j, j < 36 → h.1 31 j = nI (F j)) ∧ ∀ a, a ≠ 31 → h.1 a = h0.1 a
set_option maxHeartbeats 400000 in
theorem X_narrow {h0 h : HP} {F : Nat → Nat} {i k : Nat} (X : XT h0 h F) (hF : ∀ j, j < 36 → F j < 8192) (hi : i < 6) (hk : k < 6) (ne : i ≠ k) : ∃ h', f_We_narrow 29 h (nI i) (nI k) = some (h', if nrV F i k 6 = F (6 * i + k) then 0 else 1) ∧ XT h0 h' (tie F i k (nrV F i k 6)) := by
  have l : ∀ a b : Nat, nI a * 6 + nI b = nI (6 * a + b) := fun a b => by rw [show nI a * 6 = nI (a * 6) from pk_mul a 6, nI_add, Nat.mul_comm]
  have fik := hF (6 * i + k) (by omega)
  have vl := nrV_lt (i := i) (k := k) fik
  have v6 := vl 6
  refine ⟨upI (upI h 31 (6 * i + k) (nI (nrV F i k 6))) 31 (6 * k + i) (nI (cwN (nrV F i k 6))), ?_, fun j hj => ?_, fun a ha => ?_⟩
  · unfold f_We_narrow
    rw [l, if_pos (inb_nI (show 6 * i + k < 36 by omega) (by decide)), ix_nI (by omega), X.1 (6 * i + k) (by omega)]
    unfold f_We_narrow_l18
    refine loop_up (fun n => (nI (nrV F i k n), nI n)) 6 (fun n hn => ?_) ?_
    · show f_We_narrow_b18 29 h (nI i) (nI k) (nI (F (6 * i + k))) (nI (nrV F i k n)) (nI n) = some (Sum.inl (nI (if n = i ∨ n = k then nrV F i k n else nrV F i k n &&& cpN (F (6 * i + n)) (F (6 * n + k))), nI (n + 1)))
      unfold f_We_narrow_b18
      rw [if_neg (show ¬ (6 : Int32) ≤ nI n from nI_ge (b := 6) hn (by decide)), nI_1]
      by_cases z1 : n = i
      · rw [if_pos (by rw [z1]), if_pos (Or.inl z1)]
      · rw [if_neg (fun e => z1 ((nI_eq (by omega) (by omega)).mp e))]
        by_cases z2 : n = k
        · rw [if_pos (by rw [z2]), if_pos (Or.inr z2)]
        · have hv := vl n
          have hc := cpN_lt (F (6 * i + n)) (F (6 * n + k))
          rw [if_neg (fun e => z2 ((nI_eq (by omega) (by omega)).mp e)), if_neg (show ¬ (n = i ∨ n = k) from fun e => Or.elim e z1 z2), l, l, if_pos (inb_nI (show 6 * i + n < 36 by omega) (by decide)), if_pos (inb_nI (show 6 * n + k < 36 by omega) (by decide)), ix_nI (show 6 * i + n < 2 ^ 31 by omega), ix_nI (show 6 * n + k < 2 ^ 31 by omega), X.1 (6 * i + n) (by omega), X.1 (6 * n + k) (by omega), X_composed, cmS_nI (hF _ (by omega)) (hF _ (by omega))]
          refine bsome rfl ?_
          rw [nI_and (by omega) (by omega)]
    · show f_We_narrow_b18 29 h (nI i) (nI k) (nI (F (6 * i + k))) (nI (nrV F i k 6)) (nI 6) = _
      unfold f_We_narrow_b18
      rw [if_pos (show (6 : Int32) ≤ nI 6 from nle 6), l, l, if_pos (inb_nI (show 6 * i + k < 36 by omega) (by decide)), ix_nI (show 6 * i + k < 2 ^ 31 by omega), ix_nI (show 6 * k + i < 2 ^ 31 by omega), X_turned, cvT_nI v6]
      simp only [Option.bind_some]
      rw [if_pos (inb_nI (show 6 * k + i < 36 by omega) (by decide))]
      by_cases z : nrV F i k 6 = F (6 * i + k)
      · rw [if_pos (by rw [z]), if_pos z]; rfl
      · rw [if_neg (fun e => z ((nI_eq (by omega) (by omega)).mp e)), if_neg z]; rfl
  · unfold tie
    rw [upI_s, upI_s]
    by_cases z : j = 6 * k + i
    · rw [if_pos z, if_pos z]
    · rw [if_neg z, if_neg z]
      by_cases y : j = 6 * i + k
      · rw [if_pos y, if_pos y]
      · rw [if_neg y, if_neg y]; exact X.1 j hj
  · rw [upI_at _ _ _ _ ha, upI_at _ _ _ _ ha]; exact X.2 a ha
