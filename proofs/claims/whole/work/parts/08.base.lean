/-! loops, guards, shapes -/
def iterN {S T : Type} (body : S → Option (S ⊕ T)) : Nat → S → Option T
  | 0, _ => none
  | n + 1, s => match body s with
    | none => none
    | some (.inl s') => iterN body n s'
    | some (.inr t) => some t
noncomputable def loop {S T : Type} (body : S → Option (S ⊕ T)) (s : S) : Option T := @dite _ (∃ t, ∃ n, iterN body n s = some t) (Classical.propDecidable _) (fun h => some (Classical.choose h)) (fun _ => none)
theorem iterN_up {S T : Type} {body : S → Option (S ⊕ T)} : ∀ {n : Nat} {s : S} {t : T}, iterN body n s = some t → iterN body (n + 1) s = some t
  | 0, s, t, h => by simp [iterN] at h
  | n + 1, s, t, h => by
    rw [iterN] at h ⊢
    split at h
    · cases h
    · exact iterN_up h
    · exact h
theorem iterN_add {S T : Type} {body : S → Option (S ⊕ T)} {n : Nat} {s : S} {t : T} (h : iterN body n s = some t) : ∀ k, iterN body (n + k) s = some t
  | 0 => h
  | k + 1 => iterN_up (iterN_add h k)
theorem iterN_det {S T : Type} {body : S → Option (S ⊕ T)} {n m : Nat} {s : S} {t u : T} (h : iterN body n s = some t) (h' : iterN body m s = some u) : t = u := by
  have h1 := iterN_add h m
  have h2 := iterN_add h' n
  rw [Nat.add_comm m n, h1] at h2
  exact Option.some.inj h2
theorem loop_iff {S T : Type} {body : S → Option (S ⊕ T)} {s : S} {t : T} : loop body s = some t ↔ ∃ n, iterN body n s = some t := by
  constructor
  · intro h
    unfold loop at h
    split at h
    · rename_i hx
      have := Classical.choose_spec hx
      rw [Option.some.inj h] at this
      exact this
    · cases h
  · rintro ⟨n, h⟩
    unfold loop
    split
    · rename_i hx
      obtain ⟨m, hm⟩ := Classical.choose_spec hx
      rw [iterN_det hm h]
    · rename_i hx
      exact absurd ⟨t, n, h⟩ hx
theorem loop_inl {S T : Type} {body : S → Option (S ⊕ T)} {s s' : S} (h : body s = some (.inl s')) : loop body s = loop body s' := by
  apply Option.ext
  intro t
  rw [loop_iff, loop_iff]
  constructor
  · rintro ⟨n, hn⟩
    cases n with
    | zero => simp [iterN] at hn
    | succ n => rw [iterN, h] at hn; exact ⟨n, hn⟩
  · rintro ⟨n, hn⟩
    exact ⟨n + 1, by rw [iterN, h]; exact hn⟩
theorem loop_inr {S T : Type} {body : S → Option (S ⊕ T)} {s : S} {t : T} (h : body s = some (.inr t)) : loop body s = some t := loop_iff.mpr ⟨1, by rw [iterN, h]⟩
/-- a loop that counts up -/
theorem loop_up {S T : Type} {body : S → Option (S ⊕ T)} {t : T} (f : Nat → S) (N : Nat) (hs : ∀ i, i < N → body (f i) = some (.inl (f (i + 1)))) (he : body (f N) = some (.inr t)) : loop body (f 0) = some t := by
  have : ∀ k, k ≤ N → loop body (f (N - k)) = some t := by
    intro k
    induction k with
    | zero => intro _; exact loop_inr he
    | succ k ih =>
      intro hk
      rw [loop_inl (hs (N - (k + 1)) (by omega)), show N - (k + 1) + 1 = N - k by omega]
      exact ih (by omega)
  have h := this N (Nat.le_refl N)
  rwa [Nat.sub_self] at h
/-- a loop with a measure -/
theorem loop_ms {S T : Type} {body : S → Option (S ⊕ T)} (I : S → Prop) (mu : S → Nat) (Q : T → Prop) (hs : ∀ s, I s → (∃ s', body s = some (.inl s') ∧ I s' ∧ mu s' < mu s) ∨ ∃ t, body s = some (.inr t) ∧ Q t) : ∀ s, I s → ∃ t, loop body s = some t ∧ Q t := by
  have : ∀ n s, mu s < n → I s → ∃ t, loop body s = some t ∧ Q t := by
    intro n
    induction n with
    | zero => intro s h; omega
    | succ n ih =>
      intro s h hI
      rcases hs s hI with ⟨s', h1, h2, h3⟩ | ⟨t, h1, h2⟩
      · rw [loop_inl h1]; exact ih s' (by omega) h2
      · exact ⟨t, loop_inr h1, h2⟩
  exact fun s => this (mu s + 1) s (by omega)
def Kel {S T : Type} (P : S → Prop) (K : T → Prop) : S ⊕ T → Prop
  | .inl s => P s
  | .inr t => K t
theorem loop_ind {S T : Type} {body : S → Option (S ⊕ T)} (P : S → Prop) (K : T → Prop) (hb : ∀ s t, body s = some t → Kel P K t → P s) : ∀ s x, loop body s = some x → K x → P s := by
  have : ∀ n s x, iterN body n s = some x → K x → P s := by
    intro n
    induction n with
    | zero => intro s x h; simp [iterN] at h
    | succ n ih =>
      intro s x h hk
      rw [iterN] at h
      split at h
      · cases h
      · rename_i s' hb'
        exact hb s _ hb' (ih s' x h hk)
      · rename_i t hb'
        refine hb s _ hb' ?_
        rw [Option.some.inj h]
        exact hk
  intro s x h hk
  obtain ⟨n, hn⟩ := loop_iff.mp h
  exact this n s x hn hk
theorem ifp {c : Prop} [Decidable c] {α : Type} {a b : Option α} {t : α} (hc : c) (h : (if c then a else b) = some t) : a = some t := by rwa [if_pos hc] at h
theorem ifn {c : Prop} [Decidable c] {α : Type} {a b : Option α} {t : α} (hc : ¬ c) (h : (if c then a else b) = some t) : b = some t := by rwa [if_neg hc] at h
theorem gd {c : Prop} [Decidable c] {α : Type} {a : Option α} {t : α} (h : (if c then a else none) = some t) : c ∧ a = some t := by
  by_cases hc : c
  · exact ⟨hc, by rwa [if_pos hc] at h⟩
  · rw [if_neg hc] at h; cases h
theorem bnd {α β : Type} {x : Option α} {f : α → Option β} {t : β} (h : x.bind f = some t) : ∃ a, x = some a ∧ f a = some t := by
  cases x with
  | none => cases h
  | some a => exact ⟨a, rfl, h⟩
theorem mpd {α β : Type} {x : Option α} {f : α → β} {t : β} (h : x.map f = some t) : ∃ a, x = some a ∧ f a = t := by
  cases x with
  | none => cases h
  | some a => exact ⟨a, rfl, Option.some.inj h⟩
theorem Fx.swX {q : MI} {d : Nat} {sh : Shp} {pc : Nat} {lv : List (Option Value)} {st : List Value} {hp : HP} {r : Option Value} {hp0 : HP} {x : Int32} (k : Int32) (tgt : Nat) (hx : x = k) (hok : okW q pc k tgt = true) (h : Fx q d sh tgt lv st hp r hp0) : Fx q d sh pc lv (.int x :: st) hp r hp0 := by
  subst hx
  exact Fx.swK x tgt hok h
def S_Co (sh : Shp) (c : Nat) : Prop := isK sh c 0 ∧ isA sh (c + 1) 11 160
def S_Cu (sh : Shp) (c : Nat) : Prop := isK sh c 1 ∧ isA sh (c + 1) 10 160 ∧ isA sh (c + 2) 10 80 ∧ isA sh (c + 3) 10 2 ∧ isA sh (c + 4) 10 8 ∧ isA sh (c + 5) 10 1600
def S_Ma (sh : Shp) (c : Nat) : Prop := isK sh c 2 ∧ isA sh (c + 1) 10 40 ∧ isA sh (c + 2) 10 40 ∧ isA sh (c + 3) 10 40
def S_Pa (sh : Shp) (c : Nat) : Prop := isK sh c 3 ∧ isA sh (c + 1) 10 800 ∧ isA sh (c + 2) 10 160
def S_Ro (sh : Shp) (c : Nat) : Prop := isK sh c 4 ∧ isA sh (c + 1) 10 40 ∧ isA sh (c + 2) 10 40 ∧ isA sh (c + 3) 10 40 ∧ isA sh (c + 4) 10 40 ∧ isA sh (c + 5) 10 40
def S_Tr (sh : Shp) (c : Nat) : Prop := isK sh c 6 ∧ isA sh (c + 1) 10 3 ∧ isA sh (c + 2) 10 3
def S_We (sh : Shp) (c : Nat) : Prop := isK sh c 7 ∧ isA sh (c + 1) 10 36 ∧ isA sh (c + 2) 10 36
def S_St (sh : Shp) (c : Nat) : Prop := isK sh c 5 ∧ S_Ro sh (c + 1) ∧ S_Ro sh (c + 7) ∧ S_Ro sh (c + 13) ∧ S_Tr sh (c + 19) ∧ S_Cu sh (c + 22) ∧ S_We sh (c + 28)
def S_TJ (sh : Shp) (c : Nat) : Prop := isK sh c 8 ∧ S_St sh (c + 1) ∧ S_Co sh (c + 32) ∧ S_Pa sh (c + 34) ∧ S_Ma sh (c + 37) ∧ isA sh (c + 41) 10 40
def S_Mo (sh : Shp) (c : Nat) : Prop := isK sh c 9 ∧ isA sh (c + 1) 10 4100 ∧ isA sh (c + 2) 10 4100 ∧ isA sh (c + 3) 10 200 ∧ isA sh (c + 4) 10 200 ∧ isA sh (c + 5) 10 200 ∧ isA sh (c + 6) 10 40 ∧ isA sh (c + 7) 10 200 ∧ isA sh (c + 8) 10 40 ∧ isA sh (c + 9) 10 169 ∧ isA sh (c + 10) 10 36
