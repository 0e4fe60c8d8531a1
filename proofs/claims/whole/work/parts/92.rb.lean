/-! all but the image: one relation, kept by every call -/
def RB (h m : HP) : Prop := RT h 1 (m.1 1) ∧ NV h 1 (m.1 1) ∧ CC m
set_option maxHeartbeats 400000 in
theorem RT.net {h h' m m' : HP} (S : RT h 1 (m.1 1)) (e : ∀ a, a < 29 → h'.1 a = h.1 a) (ew : ∀ j, j < 4064 → m'.1 1 j = m.1 1 j) : RT h' 1 (m'.1 1) := by
  refine ⟨(S.1.cgt (fun a _ h2 => e a (by omega))).cgw S.2.1 (fun j hj => ew j (by omega)), S.2.1.cgw (fun j _ hj => ew j (by omega)), by rw [ew 0 (by omega), ew 1 (by omega)]; exact S.2.2.1, (S.2.2.2.1.cgt (fun a _ h2 => e a (by omega))).cgw (fun j _ hj => ew j (by omega)), ?_, (S.2.2.2.2.2.cgt (fun a _ h2 => e a (by omega))).cgw (grow.of S.2.1 (fun j _ hj => ew j (by omega))) (fun j _ hj => ew j hj)⟩
  refine TV.cgw (w := m.1 1) ?_ (fun j _ hj => ew j (by omega))
  unfold TV; rw [e (1 + 19) (by omega), e (1 + 20) (by omega), e (1 + 21) (by omega)]; exact S.2.2.2.2.1
set_option maxHeartbeats 400000 in
theorem CC.cg {m m' : HP} (C : CC m) (e9 : m'.1 9 = m.1 9) (e0 : m'.1 0 12 = m.1 0 12) : CC m' := by
  unfold CC TBl at *; rw [e9, e0]; exact C
set_option maxHeartbeats 400000 in
theorem RB.a2 {h h' m m' : HP} (B : RB h m) (kx : keepX h h') (km : keepM m m') : RB h' m' :=
  ⟨B.1.net (fun a ha => kx a (by omega)) (fun j _ => by rw [km.1]), B.2.1.cg (fun a h1 h2 => kx a (by omega)) (fun j _ => by rw [km.1]), B.2.2.cg km.2.2.2.1 km.2.2.2.2⟩
set_option maxHeartbeats 400000 in
theorem RB.aS {h h' m m' : HP} (B : RB h m) (S : RT h' 1 (m'.1 1)) (kx : keepNet h h') (km : keepMN m m') : RB h' m' := by
  refine ⟨S, B.2.1.cg (fun a h1 h2 => ?_) km.1, B.2.2.cg km.2.2.2.1 km.2.2.2.2⟩
  rcases (show a = 29 ∨ a = 30 ∨ a = 31 by omega) with z | z | z
  · rw [z]; exact kx.1
  · rw [z]; exact kx.2.1
  · rw [z]; exact kx.2.2
set_option maxHeartbeats 400000 in
theorem RB.aN {h h' m m' : HP} (B : RB h m) (V : NV h' 1 (m'.1 1)) (e : ∀ a, (a < 29 ∨ 31 < a) → h'.1 a = h.1 a) (ew : ∀ j, j < 4064 → m'.1 1 j = m.1 1 j) (C : CC m') : RB h' m' :=
  ⟨B.1.net (fun a ha => e a (by omega)) ew, V, C⟩
