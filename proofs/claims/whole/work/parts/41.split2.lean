/-! split: both -/
set_option maxHeartbeats 400000 in
theorem frC.fr1 {h h' : HP} (F : frC 32 h h') : fr [32] h h' := fun a ha => F.1 a (fun e => ha (by rw [e]; decide))
def IQ (w : Nat → Int32) (s r u : Nat) (x : Int) : Prop := (x = (sp w s r).toInt ∨ x = (ep w s r).toInt) ∨ ∃ o, o < nS w (1 - s) ∧ cN (prt w s r) o < u ∧ prt w s r o = true ∧ ins w s r o x
set_option maxHeartbeats 400000 in
theorem IQ_IP {w : Nat → Int32} {s r : Nat} (x : Int) : IQ w s r (cN (prt w s r) (nS w (1 - s))) x ↔ IP w s r (nS w (1 - s)) x := by
  unfold IQ IP
  refine or_congr Iff.rfl ⟨fun ⟨o, a, _, b⟩ => ⟨o, a, b⟩, fun ⟨o, a, b⟩ => ⟨o, a, cN_lt a b.1, b⟩⟩
set_option maxHeartbeats 400000 in
theorem IQ_succ {w : Nat → Int32} {s r o : Nat} (ho : o < nS w (1 - s)) (hp : prt w s r o = true) (x : Int) : IQ w s r (cN (prt w s r) o + 1) x ↔ IQ w s r (cN (prt w s r) o) x ∨ ins w s r o x := by
  unfold IQ
  constructor
  · rintro (h | ⟨q, a, b, c, d⟩)
    · exact Or.inl (Or.inl h)
    · rcases Nat.lt_trichotomy q o with z | z | z
      · exact Or.inl (Or.inr ⟨q, a, cN_lt z c, c, d⟩)
      · exact Or.inr (z ▸ d)
      · have := cN_lt z hp; omega
  · rintro ((h | ⟨q, a, b, c, d⟩) | d)
    · exact Or.inl h
    · exact Or.inr ⟨q, a, by omega, c, d⟩
    · exact Or.inr ⟨o, ho, by omega, hp, d⟩
set_option maxHeartbeats 400000 in
/-- the class's parts of a row -/
theorem X_layParts {h : HP} {w : Nat → Int32} {s r : Nat} (M : MW h w s r (nS w (1 - s))) (h40 : nS w (1 - s) ≤ 40) {k : Nat} {d : Nat → Int32} (S : SE (fun j => (d j).toInt) k (IP w s r (nS w (1 - s)))) : ∃ h', f_Ma_layParts 37 h 32 34 = some h' ∧ PW h' (k - 1) (spF w s r d) ∧ (∀ a, a < 32 → h'.1 a = h.1 a) := by
  obtain ⟨h1, e1, C1, F1⟩ := X_cempty h 32 (fun _ => 0)
  have C1' : CE h1 0 (fun _ => False) := ⟨_, C1, fun i hi => by omega, fun x => ⟨fun ⟨i, hi, _⟩ => by omega, fun z => z.elim⟩⟩
  have M1 := M.fr F1.fr1 (by decide) (by decide) (by decide) (by decide)
  obtain ⟨h2, e2, C2, F2⟩ := CE_put C1' (by omega) (sp w s r)
  have M2 := M1.fr F2.fr1 (by decide) (by decide) (by decide) (by decide)
  obtain ⟨h3, e3, C3, F3⟩ := CE_put C2 (by omega) (ep w s r)
  have C3' : CE h3 2 (IQ w s r 0) := C3.cg (fun x => by
    unfold IQ
    constructor
    · rintro ((z | z) | z)
      · exact z.elim
      · exact Or.inl (Or.inl z)
      · exact Or.inl (Or.inr z)
    · rintro ((z | z) | ⟨o, _, z, _⟩)
      · exact Or.inl (Or.inr z)
      · exact Or.inr z
      · omega)
  have F03 : frC 32 h h3 := (F1.tr F2).tr F3
  have cn := cN_le (prt w s r) (nS w (1 - s))
  unfold f_Ma_layParts
  rw [e1]; simp only [Option.bind_some]
  rw [M1.1, e2]; simp only [Option.bind_some]
  rw [M2.2.1, e3]; simp only [Option.bind_some]
  unfold f_Ma_layParts_l24
  have key1 := loop_inv (body := fun x : HP × Int32 => f_Ma_layParts_b24 37 x.1 32 34 x.2) (fun u (x : HP × Int32) => x.2 = nI u ∧ ∃ n, CE x.1 n (IQ w s r u) ∧ n ≤ 2 + 2 * u ∧ frC 32 h x.1) (cN (prt w s r) (nS w (1 - s))) (fun t : HP => PW t (k - 1) (spF w s r d) ∧ (∀ a, a < 32 → t.1 a = h.1 a)) (fun u x hu hI => ?_) (fun x hI => ?_) (h3, 0) ⟨rfl, 2, C3', by omega, F03⟩
  · exact key1
  · obtain ⟨hx, v5⟩ := x
    obtain ⟨e5, n, C, hk, F⟩ := hI
    replace e5 : v5 = nI u := e5
    replace C : CE hx n (IQ w s r u) := C
    replace F : frC 32 h hx := F
    subst e5
    obtain ⟨o, ho, hp, eo⟩ := cN_sur hu
    subst eo
    have Mx := M.fr F.fr1 (by decide) (by decide) (by decide) (by decide)
    obtain ⟨-, m2, m3⟩ := Mx.2.2.2 o ho hp
    obtain ⟨ha, na, ea, Ca, la, Fa⟩ := X_putInside Mx.1 Mx.2.1 C (by omega) (sp w (1 - s) o)
    have Ma := Mx.fr Fa.fr1 (by decide) (by decide) (by decide) (by decide)
    obtain ⟨-, m2', m3'⟩ := Ma.2.2.2 o ho hp
    obtain ⟨hb, nb, eb, Cb, lb, Fb⟩ := X_putInside Ma.1 Ma.2.1 Ca (by omega) (ep w (1 - s) o)
    refine ⟨(hb, nI (cN (prt w s r) o + 1)), ?_, rfl, nb, Cb.cg (fun x => ?_), by omega, (F.tr Fa).tr Fb⟩
    · show f_Ma_layParts_b24 37 hx 32 34 (nI (cN (prt w s r) o)) = _
      unfold f_Ma_layParts_b24
      simp only [Nat.reduceAdd, Mx.2.2.1, if_neg (ngt hu (show cN (prt w s r) (nS w (1 - s)) ≤ 40 by omega)), if_pos (inb_nI (show cN (prt w s r) o < 40 by omega) (show 40 < 2 ^ 31 by decide)), ix_nI (show cN (prt w s r) o < 2 ^ 31 by omega), m2, ea, Option.bind_some, m3', eb, nI_1]
    · rw [IQ_succ ho hp]; unfold ins
      constructor
      · rintro ((z | ⟨z1, z2⟩) | ⟨z1, z2⟩)
        · exact Or.inl z
        · exact Or.inr ⟨Or.inl z1, z2⟩
        · exact Or.inr ⟨Or.inr z1, z2⟩
      · rintro (z | ⟨z1 | z1, z2⟩)
        · exact Or.inl (Or.inl z)
        · exact Or.inl (Or.inr ⟨z1, z2⟩)
        · exact Or.inr ⟨z1, z2⟩
  · obtain ⟨hx, v5⟩ := x
    obtain ⟨e5, n, C, hk, F⟩ := hI
    replace e5 : v5 = nI (cN (prt w s r) (nS w (1 - s))) := e5
    replace C : CE hx n (IQ w s r (cN (prt w s r) (nS w (1 - s)))) := C
    replace F : frC 32 h hx := F
    subst e5
    have Mx := M.fr F.fr1 (by decide) (by decide) (by decide) (by decide)
    obtain ⟨h4, G, e4, C4, srt, mem, F4⟩ := CE_sort C
    have M4 := Mx.fr F4.fr1 (by decide) (by decide) (by decide) (by decide)
    obtain ⟨h5, e5, P5, F5⟩ := X_pempty h4 (spF w s r d)
    have M5 := M4.fr F5 (by decide) (by decide) (by decide) (by decide)
    have C5 : CW h5 32 n (fun i => (G i).toInt64) := C4.fp F5 (by cases e5; rfl)
    have n0 : 0 < n := by
      obtain ⟨i, hi, _⟩ := (mem (sp w s r).toInt).mpr (Or.inl (Or.inl rfl)); omega
    obtain ⟨h6, e6, P6, F6⟩ := X_partsWalk M5 h40 C5 srt (S.cg (fun x => by rw [mem x, IQ_IP])) n0 P5
    refine ⟨h6, ?_, P6, fun a ha => ?_⟩
    · show f_Ma_layParts_b24 37 hx 32 34 (nI (cN (prt w s r) (nS w (1 - s)))) = _
      unfold f_Ma_layParts_b24
      simp only [Mx.2.2.1, if_pos (nle _), e4, e5, e6, Option.bind_some]
      rfl
    · rw [F6 a (by simp; omega), F5 a (by simp; omega), F4.1 a (by omega), F.1 a (by omega)]
