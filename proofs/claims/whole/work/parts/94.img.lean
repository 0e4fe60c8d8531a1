/-! the image: a State of its own (cell 0 of the world kk), the reference's cell 2 -/
set_option maxHeartbeats 400000 in
theorem RT.w {h : HP} {b : Nat} {w w' : Nat → Int32} (S : RT h b w) (e : ∀ j, j < 4064 → w' j = w j) : RT h b w' :=
  ⟨S.1.cgw S.2.1 (fun j hj => e j (by omega)), S.2.1.cgw (fun j _ hj => e j (by omega)), by rw [e 0 (by omega), e 1 (by omega)]; exact S.2.2.1, S.2.2.2.1.cgw (fun j _ hj => e j (by omega)), S.2.2.2.2.1.cgw (fun j _ hj => e j (by omega)), S.2.2.2.2.2.cgw (grow.of S.2.1 (fun j _ hj => e j (by omega))) (fun j _ hj => e j hj)⟩
set_option maxHeartbeats 400000 in
theorem NV.w {h : HP} {b : Nat} {w w' : Nat → Int32} (S : NV h b w) (e : ∀ j, j < 36 → w' (4064 + j) = w (4064 + j)) : NV h b w' := S.cg (fun _ _ _ => rfl) e
def IM (K : Bool) (kk m : HP) : Prop := match K with
  | true => m.1 0 2 = 1 ∧ RT kk 0 (m.1 2) ∧ NV kk 0 (m.1 2)
  | false => m.1 0 2 = 0
def RA (K : Bool) (kk h m : HP) : Prop := RB h m ∧ IM K kk m
set_option maxHeartbeats 400000 in
theorem IM.of {K : Bool} {kk m m' : HP} (I : IM K kk m) (e2 : m'.1 2 = m.1 2) (e0 : m'.1 0 2 = m.1 0 2) : IM K kk m' := by
  cases K with
  | true => exact ⟨by rw [e0]; exact I.1, by rw [e2]; exact I.2.1, by rw [e2]; exact I.2.2⟩
  | false => show m'.1 0 2 = 0; rw [e0]; exact I
set_option maxHeartbeats 1000000 in
theorem M_image1 (m : HP) (v : Int32) (hv : ¬ v = 0) : ∃ m', f_Mo_image 0 m v = some (m', 1) ∧ (∀ j, j < 4100 → m'.1 2 j = m.1 1 j) ∧ m'.1 0 2 = 1 ∧ (∀ j, j ≠ 2 → m'.1 0 j = m.1 0 j) ∧ ∀ a, a ≠ 0 → a ≠ 2 → m'.1 a = m.1 a := by
  unfold f_Mo_image
  rw [if_neg hv]
  unfold f_Mo_image_l15
  have key := loop_inv (body := fun x : HP × Int32 => f_Mo_image_b15 0 x.1 v x.2) (fun k x => ∃ m' : HP, x = (m', nI k) ∧ (∀ j, j < k → m'.1 2 j = m.1 1 j) ∧ ∀ a, a ≠ 2 → m'.1 a = m.1 a) 4100 (fun y => ∃ m', y = (m', (1 : Int32)) ∧ (∀ j, j < 4100 → m'.1 2 j = m.1 1 j) ∧ m'.1 0 2 = 1 ∧ (∀ j, j ≠ 2 → m'.1 0 j = m.1 0 j) ∧ ∀ a, a ≠ 0 → a ≠ 2 → m'.1 a = m.1 a) (fun k x hk hI => ?_) (fun x hI => ?_) (m, 0) ⟨m, rfl, fun j hj => by omega, fun _ _ => rfl⟩
  · obtain ⟨y, e, m', rfl, r⟩ := key
    exact ⟨m', e, r⟩
  · obtain ⟨m', rfl, a, b⟩ := hI
    show ∃ s', f_Mo_image_b15 0 m' v (nI k) = some (Sum.inl s') ∧ _
    unfold f_Mo_image_b15
    rw [if_neg (show ¬ (4100 : Int32) ≤ nI k from nI_ge (b := 4100) hk (by decide)), if_neg hv, if_pos (inb_nI hk (by decide)), if_pos (inb_nI hk (by decide)), ix_nI (by omega), nI_1]
    refine ⟨_, rfl, _, rfl, fun j hj => ?_, fun c hc => ?_⟩
    · show (upI m' 2 k (m'.1 (0 + 1) k)).1 2 j = _
      rw [upI_s]
      by_cases z : j = k
      · rw [if_pos z, b (0 + 1) (by decide), z]
      · rw [if_neg z]; exact a j (by omega)
    · show (upI m' 2 k (m'.1 (0 + 1) k)).1 c = _
      rw [upI_at _ _ _ _ hc]; exact b c hc
  · obtain ⟨m', rfl, a, b⟩ := hI
    show ∃ t, f_Mo_image_b15 0 m' v (nI 4100) = some (Sum.inr t) ∧ _
    unfold f_Mo_image_b15
    rw [if_pos (show (4100 : Int32) ≤ nI 4100 from nle 4100)]
    refine ⟨_, rfl, _, rfl, fun j hj => by rw [upI_at _ _ _ _ (by decide)]; exact a j hj, by rw [upI_s, if_pos rfl], fun j hj => by rw [upI_s, if_neg hj, b 0 (by decide)], fun c c0 c2 => by rw [upI_at _ _ _ _ c0]; exact b c c2⟩
set_option maxHeartbeats 1000000 in
theorem M_image0 (m : HP) (hm : ¬ m.1 0 2 = 0) : ∃ m', f_Mo_image 0 m 0 = some (m', 1) ∧ (∀ j, j < 4100 → m'.1 1 j = m.1 2 j) ∧ m'.1 0 2 = 1 ∧ (∀ j, j ≠ 2 → m'.1 0 j = m.1 0 j) ∧ ∀ a, a ≠ 0 → a ≠ 1 → m'.1 a = m.1 a := by
  unfold f_Mo_image
  rw [if_pos rfl, if_neg hm]
  unfold f_Mo_image_l15
  have key := loop_inv (body := fun x : HP × Int32 => f_Mo_image_b15 0 x.1 0 x.2) (fun k x => ∃ m' : HP, x = (m', nI k) ∧ (∀ j, j < k → m'.1 1 j = m.1 2 j) ∧ ∀ a, a ≠ 1 → m'.1 a = m.1 a) 4100 (fun y => ∃ m', y = (m', (1 : Int32)) ∧ (∀ j, j < 4100 → m'.1 1 j = m.1 2 j) ∧ m'.1 0 2 = 1 ∧ (∀ j, j ≠ 2 → m'.1 0 j = m.1 0 j) ∧ ∀ a, a ≠ 0 → a ≠ 1 → m'.1 a = m.1 a) (fun k x hk hI => ?_) (fun x hI => ?_) (m, 0) ⟨m, rfl, fun j hj => by omega, fun _ _ => rfl⟩
  · obtain ⟨y, e, m', rfl, r⟩ := key
    exact ⟨m', e, r⟩
  · obtain ⟨m', rfl, a, b⟩ := hI
    show ∃ s', f_Mo_image_b15 0 m' 0 (nI k) = some (Sum.inl s') ∧ _
    unfold f_Mo_image_b15
    rw [if_neg (show ¬ (4100 : Int32) ≤ nI k from nI_ge (b := 4100) hk (by decide)), if_pos rfl, if_pos (inb_nI hk (by decide)), if_pos (inb_nI hk (by decide)), ix_nI (by omega), nI_1]
    refine ⟨_, rfl, _, rfl, fun j hj => ?_, fun c hc => ?_⟩
    · show (upI m' 1 k (m'.1 (0 + 2) k)).1 1 j = _
      rw [upI_s]
      by_cases z : j = k
      · rw [if_pos z, b (0 + 2) (by decide), z]
      · rw [if_neg z]; exact a j (by omega)
    · show (upI m' 1 k (m'.1 (0 + 2) k)).1 c = _
      rw [upI_at _ _ _ _ hc]; exact b c hc
  · obtain ⟨m', rfl, a, b⟩ := hI
    show ∃ t, f_Mo_image_b15 0 m' 0 (nI 4100) = some (Sum.inr t) ∧ _
    unfold f_Mo_image_b15
    rw [if_pos (show (4100 : Int32) ≤ nI 4100 from nle 4100)]
    refine ⟨_, rfl, _, rfl, fun j hj => by rw [upI_at _ _ _ _ (by decide)]; exact a j hj, by rw [upI_s, if_pos rfl], fun j hj => by rw [upI_s, if_neg hj, b 0 (by decide)], fun c c0 c2 => by rw [upI_at _ _ _ _ c0]; exact b c c2⟩
/-- both worlds of the class in one: its own cells, then the image's -/
def twoW (h kk : HP) : HP := (fun c => if c < 42 then h.1 c else kk.1 (c - 42), fun c => if c < 42 then h.2 c else kk.2 (c - 42))
def fst2 (g : HP) : HP := (fun c => g.1 c, fun c => g.2 c)
def snd2 (g : HP) : HP := (fun c => g.1 (42 + c), fun c => g.2 (42 + c))
set_option maxHeartbeats 400000 in
theorem two_lo {h kk : HP} {a : Nat} (ha : a < 42) : (twoW h kk).1 a = h.1 a := if_pos ha
set_option maxHeartbeats 400000 in
theorem two_hi {h kk : HP} (a : Nat) : (twoW h kk).1 (42 + a) = kk.1 a := by
  show (if 42 + a < 42 then h.1 (42 + a) else kk.1 (42 + a - 42)) = kk.1 a
  rw [if_neg (by omega), show 42 + a - 42 = a by omega]
set_option maxHeartbeats 400000 in
theorem cpd_k {h h' : HP} {v c : Nat} (e : ∀ k, k < 31 → h'.1 (c + k) = h.1 (v + k)) : cpd h h' v c := fun k j hk => by rw [e k (by unfold inS at hk; omega)]
set_option maxHeartbeats 400000 in
theorem cpd.tr {h h' h'' : HP} {u v c : Nat} (a : cpd h h' u v) (b : cpd h' h'' v c) : cpd h h'' u c := fun k j hk => (b k j hk).trans (a k j hk)
set_option maxHeartbeats 1000000 in
/-- the image is taken: the class's State comes to the image's -/
theorem img_take {K : Bool} {kk k0 h m : HP} (A : RA K kk h m) (v : Int32) (hv : ¬ v = 0) : ∃ g m', f_St_copyFrom 42 (twoW h k0) 1 = some g ∧ f_Mo_image 0 m v = some (m', 1) ∧ (∀ a, a < 42 → g.1 a = h.1 a) ∧ RA true (snd2 g) (fst2 g) m' := by
  obtain ⟨B, I⟩ := A
  have c0 : cpd h (twoW h k0) 1 1 := cpd_k (fun k hk => two_lo (by omega))
  have S1 : RT (twoW h k0) 1 (m.1 1) := B.1.cp c0
  have N1 : NV (twoW h k0) 1 (m.1 1) := B.2.1.cp c0
  obtain ⟨g, e, C, F⟩ := St_cp 42 1 (twoW h k0) (by omega) S1.flags.1 N1.flag S1.flags.2
  obtain ⟨m', em, w2, z, z', fr⟩ := M_image1 m v hv
  have lo : ∀ a, a < 42 → g.1 a = h.1 a := fun a ha => (F a (Or.inl ha)).trans (two_lo ha)
  refine ⟨g, m', e, em, lo, ⟨?_, ?_, ?_⟩, z, ?_, ?_⟩
  · have : RT (fst2 g) 1 (m.1 1) := B.1.cp (cpd_k (fun k hk => lo (1 + k) (by omega)))
    rw [fr 1 (by decide) (by decide)]; exact this
  · have : NV (fst2 g) 1 (m.1 1) := B.2.1.cp (cpd_k (fun k hk => lo (1 + k) (by omega)))
    rw [fr 1 (by decide) (by decide)]; exact this
  · exact B.2.2.cg (fr 9 (by decide) (by decide)) (z' 12 (by decide))
  · have : RT (snd2 g) 0 (m.1 1) := (S1.cp C).cp (cpd_k (fun k hk => by rw [Nat.zero_add]; rfl))
    exact this.w (fun j hj => w2 j (by omega))
  · have : NV (snd2 g) 0 (m.1 1) := (N1.cp C).cp (cpd_k (fun k hk => by rw [Nat.zero_add]; rfl))
    exact this.w (fun j hj => w2 (4064 + j) (by omega))
set_option maxHeartbeats 1000000 in
/-- the image is gone back to -/
theorem img_back {kk h m : HP} (A : RA true kk h m) : ∃ g m', f_St_copyFrom 1 (twoW h kk) 42 = some g ∧ f_Mo_image 0 m 0 = some (m', 1) ∧ RA true (snd2 g) (fst2 g) m' := by
  obtain ⟨B, I0, I1, I2⟩ := A
  have c0 : cpd kk (twoW h kk) 0 42 := cpd_k (fun k hk => by rw [two_hi, Nat.zero_add])
  have S1 : RT (twoW h kk) 42 (m.1 2) := I1.cp c0
  have N1 : NV (twoW h kk) 42 (m.1 2) := I2.cp c0
  obtain ⟨g, e, C, F⟩ := St_cp 1 42 (twoW h kk) (by omega) S1.flags.1 N1.flag S1.flags.2
  obtain ⟨m', em, w2, z, z', fr⟩ := M_image0 m (by rw [I0]; decide)
  have hi : ∀ k, k < 31 → (snd2 g).1 (0 + k) = (twoW h kk).1 (42 + k) := fun k hk => by
    rw [Nat.zero_add]; exact F (42 + k) (by omega)
  refine ⟨g, m', e, em, ⟨?_, ?_, ?_⟩, z, ?_, ?_⟩
  · have : RT (fst2 g) 1 (m.1 2) := (S1.cp C).cp (cpd_k (fun k hk => rfl))
    exact this.w (fun j hj => w2 j (by omega))
  · have : NV (fst2 g) 1 (m.1 2) := (N1.cp C).cp (cpd_k (fun k hk => rfl))
    exact this.w (fun j hj => w2 (4064 + j) (by omega))
  · exact B.2.2.cg (fr 9 (by decide) (by decide)) (z' 12 (by decide))
  · rw [fr 2 (by decide) (by decide)]; exact S1.cp (cpd_k hi)
  · rw [fr 2 (by decide) (by decide)]; exact N1.cp (cpd_k hi)
set_option maxHeartbeats 400000 in
/-- no image: nothing to go back to -/
theorem img_none {kk h m : HP} (A : RA false kk h m) : f_Mo_image 0 m 0 = some (m, 0) := by
  unfold f_Mo_image
  rw [if_pos rfl, if_pos (show m.1 0 2 = 0 from A.2)]
