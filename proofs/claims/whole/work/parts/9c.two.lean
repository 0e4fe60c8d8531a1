/-! image(boolean) -/
def sh73 (v : Value) : Shp := shOf [(8, 0), (5, 0), (4, 0), (10, 40), (10, 40), (10, 40), (10, 40), (10, 40), (4, 0), (10, 40), (10, 40), (10, 40), (10, 40), (10, 40), (4, 0), (10, 40), (10, 40), (10, 40), (10, 40), (10, 40), (6, 0), (10, 3), (10, 3), (1, 0), (10, 160), (10, 80), (10, 2), (10, 8), (10, 1600), (7, 0), (10, 36), (10, 36), (0, 0), (11, 160), (3, 0), (10, 800), (10, 160), (2, 0), (10, 40), (10, 40), (10, 40), (10, 40), (5, 0), (4, 0), (10, 40), (10, 40), (10, 40), (10, 40), (10, 40), (4, 0), (10, 40), (10, 40), (10, 40), (10, 40), (10, 40), (4, 0), (10, 40), (10, 40), (10, 40), (10, 40), (10, 40), (6, 0), (10, 3), (10, 3), (1, 0), (10, 160), (10, 80), (10, 2), (10, 8), (10, 1600), (7, 0), (10, 36), (10, 36)] v
set_option maxHeartbeats 400000 in
theorem S_TJ0 (v : Value) : S_TJ (shTJ v) 0 := ⟨⟨Nat.le_of_ble_eq_true rfl, rfl⟩, ⟨⟨Nat.le_of_ble_eq_true rfl, rfl⟩, ⟨⟨Nat.le_of_ble_eq_true rfl, rfl⟩, ⟨Nat.le_of_ble_eq_true rfl, rfl, rfl⟩, ⟨Nat.le_of_ble_eq_true rfl, rfl, rfl⟩, ⟨Nat.le_of_ble_eq_true rfl, rfl, rfl⟩, ⟨Nat.le_of_ble_eq_true rfl, rfl, rfl⟩, ⟨Nat.le_of_ble_eq_true rfl, rfl, rfl⟩⟩, ⟨⟨Nat.le_of_ble_eq_true rfl, rfl⟩, ⟨Nat.le_of_ble_eq_true rfl, rfl, rfl⟩, ⟨Nat.le_of_ble_eq_true rfl, rfl, rfl⟩, ⟨Nat.le_of_ble_eq_true rfl, rfl, rfl⟩, ⟨Nat.le_of_ble_eq_true rfl, rfl, rfl⟩, ⟨Nat.le_of_ble_eq_true rfl, rfl, rfl⟩⟩, ⟨⟨Nat.le_of_ble_eq_true rfl, rfl⟩, ⟨Nat.le_of_ble_eq_true rfl, rfl, rfl⟩, ⟨Nat.le_of_ble_eq_true rfl, rfl, rfl⟩, ⟨Nat.le_of_ble_eq_true rfl, rfl, rfl⟩, ⟨Nat.le_of_ble_eq_true rfl, rfl, rfl⟩, ⟨Nat.le_of_ble_eq_true rfl, rfl, rfl⟩⟩, ⟨⟨Nat.le_of_ble_eq_true rfl, rfl⟩, ⟨Nat.le_of_ble_eq_true rfl, rfl, rfl⟩, ⟨Nat.le_of_ble_eq_true rfl, rfl, rfl⟩⟩, ⟨⟨Nat.le_of_ble_eq_true rfl, rfl⟩, ⟨Nat.le_of_ble_eq_true rfl, rfl, rfl⟩, ⟨Nat.le_of_ble_eq_true rfl, rfl, rfl⟩, ⟨Nat.le_of_ble_eq_true rfl, rfl, rfl⟩, ⟨Nat.le_of_ble_eq_true rfl, rfl, rfl⟩, ⟨Nat.le_of_ble_eq_true rfl, rfl, rfl⟩⟩, ⟨⟨Nat.le_of_ble_eq_true rfl, rfl⟩, ⟨Nat.le_of_ble_eq_true rfl, rfl, rfl⟩, ⟨Nat.le_of_ble_eq_true rfl, rfl, rfl⟩⟩⟩, ⟨⟨Nat.le_of_ble_eq_true rfl, rfl⟩, ⟨Nat.le_of_ble_eq_true rfl, rfl, rfl⟩⟩, ⟨⟨Nat.le_of_ble_eq_true rfl, rfl⟩, ⟨Nat.le_of_ble_eq_true rfl, rfl, rfl⟩, ⟨Nat.le_of_ble_eq_true rfl, rfl, rfl⟩⟩, ⟨⟨Nat.le_of_ble_eq_true rfl, rfl⟩, ⟨Nat.le_of_ble_eq_true rfl, rfl, rfl⟩, ⟨Nat.le_of_ble_eq_true rfl, rfl, rfl⟩, ⟨Nat.le_of_ble_eq_true rfl, rfl, rfl⟩⟩, ⟨Nat.le_of_ble_eq_true rfl, rfl, rfl⟩⟩
set_option maxHeartbeats 400000 in
theorem S_Mo0 : S_Mo shMo 0 := ⟨⟨Nat.le_of_ble_eq_true rfl, rfl⟩, ⟨Nat.le_of_ble_eq_true rfl, rfl, rfl⟩, ⟨Nat.le_of_ble_eq_true rfl, rfl, rfl⟩, ⟨Nat.le_of_ble_eq_true rfl, rfl, rfl⟩, ⟨Nat.le_of_ble_eq_true rfl, rfl, rfl⟩, ⟨Nat.le_of_ble_eq_true rfl, rfl, rfl⟩, ⟨Nat.le_of_ble_eq_true rfl, rfl, rfl⟩, ⟨Nat.le_of_ble_eq_true rfl, rfl, rfl⟩, ⟨Nat.le_of_ble_eq_true rfl, rfl, rfl⟩, ⟨Nat.le_of_ble_eq_true rfl, rfl, rfl⟩, ⟨Nat.le_of_ble_eq_true rfl, rfl, rfl⟩⟩
set_option maxHeartbeats 400000 in
theorem S_St1 (v : Value) : S_St (sh73 v) 1 := ⟨⟨Nat.le_of_ble_eq_true rfl, rfl⟩, ⟨⟨Nat.le_of_ble_eq_true rfl, rfl⟩, ⟨Nat.le_of_ble_eq_true rfl, rfl, rfl⟩, ⟨Nat.le_of_ble_eq_true rfl, rfl, rfl⟩, ⟨Nat.le_of_ble_eq_true rfl, rfl, rfl⟩, ⟨Nat.le_of_ble_eq_true rfl, rfl, rfl⟩, ⟨Nat.le_of_ble_eq_true rfl, rfl, rfl⟩⟩, ⟨⟨Nat.le_of_ble_eq_true rfl, rfl⟩, ⟨Nat.le_of_ble_eq_true rfl, rfl, rfl⟩, ⟨Nat.le_of_ble_eq_true rfl, rfl, rfl⟩, ⟨Nat.le_of_ble_eq_true rfl, rfl, rfl⟩, ⟨Nat.le_of_ble_eq_true rfl, rfl, rfl⟩, ⟨Nat.le_of_ble_eq_true rfl, rfl, rfl⟩⟩, ⟨⟨Nat.le_of_ble_eq_true rfl, rfl⟩, ⟨Nat.le_of_ble_eq_true rfl, rfl, rfl⟩, ⟨Nat.le_of_ble_eq_true rfl, rfl, rfl⟩, ⟨Nat.le_of_ble_eq_true rfl, rfl, rfl⟩, ⟨Nat.le_of_ble_eq_true rfl, rfl, rfl⟩, ⟨Nat.le_of_ble_eq_true rfl, rfl, rfl⟩⟩, ⟨⟨Nat.le_of_ble_eq_true rfl, rfl⟩, ⟨Nat.le_of_ble_eq_true rfl, rfl, rfl⟩, ⟨Nat.le_of_ble_eq_true rfl, rfl, rfl⟩⟩, ⟨⟨Nat.le_of_ble_eq_true rfl, rfl⟩, ⟨Nat.le_of_ble_eq_true rfl, rfl, rfl⟩, ⟨Nat.le_of_ble_eq_true rfl, rfl, rfl⟩, ⟨Nat.le_of_ble_eq_true rfl, rfl, rfl⟩, ⟨Nat.le_of_ble_eq_true rfl, rfl, rfl⟩, ⟨Nat.le_of_ble_eq_true rfl, rfl, rfl⟩⟩, ⟨⟨Nat.le_of_ble_eq_true rfl, rfl⟩, ⟨Nat.le_of_ble_eq_true rfl, rfl, rfl⟩, ⟨Nat.le_of_ble_eq_true rfl, rfl, rfl⟩⟩⟩
set_option maxHeartbeats 400000 in
theorem S_St42 (v : Value) : S_St (sh73 v) 42 := ⟨⟨Nat.le_of_ble_eq_true rfl, rfl⟩, ⟨⟨Nat.le_of_ble_eq_true rfl, rfl⟩, ⟨Nat.le_of_ble_eq_true rfl, rfl, rfl⟩, ⟨Nat.le_of_ble_eq_true rfl, rfl, rfl⟩, ⟨Nat.le_of_ble_eq_true rfl, rfl, rfl⟩, ⟨Nat.le_of_ble_eq_true rfl, rfl, rfl⟩, ⟨Nat.le_of_ble_eq_true rfl, rfl, rfl⟩⟩, ⟨⟨Nat.le_of_ble_eq_true rfl, rfl⟩, ⟨Nat.le_of_ble_eq_true rfl, rfl, rfl⟩, ⟨Nat.le_of_ble_eq_true rfl, rfl, rfl⟩, ⟨Nat.le_of_ble_eq_true rfl, rfl, rfl⟩, ⟨Nat.le_of_ble_eq_true rfl, rfl, rfl⟩, ⟨Nat.le_of_ble_eq_true rfl, rfl, rfl⟩⟩, ⟨⟨Nat.le_of_ble_eq_true rfl, rfl⟩, ⟨Nat.le_of_ble_eq_true rfl, rfl, rfl⟩, ⟨Nat.le_of_ble_eq_true rfl, rfl, rfl⟩, ⟨Nat.le_of_ble_eq_true rfl, rfl, rfl⟩, ⟨Nat.le_of_ble_eq_true rfl, rfl, rfl⟩, ⟨Nat.le_of_ble_eq_true rfl, rfl, rfl⟩⟩, ⟨⟨Nat.le_of_ble_eq_true rfl, rfl⟩, ⟨Nat.le_of_ble_eq_true rfl, rfl, rfl⟩, ⟨Nat.le_of_ble_eq_true rfl, rfl, rfl⟩⟩, ⟨⟨Nat.le_of_ble_eq_true rfl, rfl⟩, ⟨Nat.le_of_ble_eq_true rfl, rfl, rfl⟩, ⟨Nat.le_of_ble_eq_true rfl, rfl, rfl⟩, ⟨Nat.le_of_ble_eq_true rfl, rfl, rfl⟩, ⟨Nat.le_of_ble_eq_true rfl, rfl, rfl⟩, ⟨Nat.le_of_ble_eq_true rfl, rfl, rfl⟩⟩, ⟨⟨Nat.le_of_ble_eq_true rfl, rfl⟩, ⟨Nat.le_of_ble_eq_true rfl, rfl, rfl⟩, ⟨Nat.le_of_ble_eq_true rfl, rfl, rfl⟩⟩⟩
set_option maxHeartbeats 400000 in
theorem cE_cg {cy : ClassId × ClassId} {sh sh' : Shp} {ad ad' : Nat → Nat} {hp hp' : HP} {c o : Nat} (e1 : sh'.2.1 (o + c) = sh.2.1 c) (e2 : sh'.2.2.1 (o + c) = sh.2.2.1 c) (hne : sh.2.1 c = 8 → sh'.2.2.2 = sh.2.2.2) (ha : sh.2.1 c ≠ 10 → sh.2.1 c ≠ 11 → ∀ k, k < nsl (sh.2.1 c) → offR (sh.2.1 c) k ≠ 0 → ad' (o + c + offR (sh.2.1 c) k) = ad (c + offR (sh.2.1 c) k)) (h1 : hp'.1 (o + c) = hp.1 c) (h2 : hp'.2 (o + c) = hp.2 c) : cE cy sh' ad' hp' (o + c) = cE cy sh ad hp c := by
  unfold cE
  rw [e1, e2, h1, h2]
  by_cases t10 : sh.2.1 c = 10
  · rw [if_pos t10, if_pos t10]
  rw [if_neg t10, if_neg t10]
  by_cases t11 : sh.2.1 c = 11
  · rw [if_pos t11, if_pos t11]
  rw [if_neg t11, if_neg t11]
  have e3 : (List.range (nsl (sh.2.1 c))).map (fv sh' ad' hp' (o + c)) = (List.range (nsl (sh.2.1 c))).map (fv sh ad hp c) := by
    refine List.map_congr_left (fun k hk => ?_)
    have hk : k < nsl (sh.2.1 c) := List.mem_range.mp hk
    unfold fv
    rw [e1, h1]
    by_cases z : offR (sh.2.1 c) k = 0
    · rw [if_pos z, if_pos z]
      by_cases y : sh.2.1 c = 8 ∧ k = 1
      · rw [if_pos y, if_pos y]; exact hne y.1
      · rw [if_neg y, if_neg y]
    · rw [if_neg z, if_neg z, ha t10 t11 k hk z]
  rw [e3]
/-- what lies in a world stays in it -/
def wlin (sh : Shp) : Prop := ∀ c, c < sh.1 → sh.2.1 c ≠ 10 → sh.2.1 c ≠ 11 → ∀ k, k < nsl (sh.2.1 c) → offR (sh.2.1 c) k ≠ 0 → c + offR (sh.2.1 c) k < sh.1
set_option maxHeartbeats 400000 in
theorem wl_cg {cy : ClassId × ClassId} {sh : Shp} {ad ad' : Nat → Nat} {hp hp' : HP} (hr : wlin sh) (ha : ∀ c, c < sh.1 → ad' c = ad c) (h1 : ∀ c, c < sh.1 → hp'.1 c = hp.1 c) (h2 : ∀ c, c < sh.1 → hp'.2 c = hp.2 c) : wl cy sh ad' hp' = wl cy sh ad hp := by
  refine List.map_congr_left (fun c hc => ?_)
  have hc : c < sh.1 := List.mem_range.mp hc
  have := cE_cg (cy := cy) (sh := sh) (sh' := sh) (ad := ad) (ad' := ad') (hp := hp) (hp' := hp') (c := c) (o := 0) (by rw [Nat.zero_add]) (by rw [Nat.zero_add]) (fun _ => rfl) (fun t10 t11 k hk z => by rw [Nat.zero_add]; exact ha _ (hr c hc t10 t11 k hk z)) (by rw [Nat.zero_add]; exact h1 c hc) (by rw [Nat.zero_add]; exact h2 c hc)
  rw [Nat.zero_add] at this
  rw [ha c hc, this]
set_option maxHeartbeats 400000 in
theorem wlin_TJ0 : ∀ c, c < 42 → (shTJ .null).2.1 c ≠ 10 → (shTJ .null).2.1 c ≠ 11 → ∀ k, k < nsl ((shTJ .null).2.1 c) → offR ((shTJ .null).2.1 c) k ≠ 0 → c + offR ((shTJ .null).2.1 c) k < 42 := by decide +kernel
set_option maxHeartbeats 400000 in
theorem wlin_TJ (v : Value) : wlin (shTJ v) := wlin_TJ0
set_option maxRecDepth 10000 in
set_option maxHeartbeats 400000 in
theorem k73_lo : ∀ c, c < 42 → (sh73 .null).2.1 c = (shTJ .null).2.1 c ∧ (sh73 .null).2.2.1 c = (shTJ .null).2.2.1 c := by decide +kernel
set_option maxHeartbeats 400000 in
theorem k73_hi : ∀ c, c < 31 → (sh73 .null).2.1 (42 + c) = shSt.2.1 c ∧ (sh73 .null).2.2.1 (42 + c) = shSt.2.2.1 c := by decide +kernel
set_option maxHeartbeats 400000 in
theorem kSt_8 : ∀ c, c < 31 → shSt.2.1 c ≠ 8 := by decide +kernel
set_option maxHeartbeats 400000 in
theorem kTJ_8 : ∀ c, c < 42 → c ≠ 0 → (shTJ .null).2.1 c ≠ 8 := by decide +kernel
set_option maxHeartbeats 400000 in
/-- the world with an image: the object's, then the image's -/
theorem wl73 (cy : ClassId × ClassId) (v : Value) (ad : Nat → Nat) (g : HP) : wl cy (sh73 v) ad g = wl cy (shTJ v) ad g ++ wl cy shSt (fun c => ad (42 + c)) (snd2 g) := by
  apply List.ext_getElem?
  intro i
  have l1 : (wl cy (shTJ v) ad g).length = 42 := by simp [wl, shTJ, shOf]
  by_cases hi : i < 42
  · rw [List.getElem?_append_left (by rw [l1]; exact hi), wl_get (show i < (sh73 v).1 from (show i < 73 by omega)), wl_get (show i < (shTJ v).1 from hi)]
    have := cE_cg (cy := cy) (sh := shTJ v) (sh' := sh73 v) (ad := ad) (ad' := ad) (hp := g) (hp' := g) (c := i) (o := 0) (by rw [Nat.zero_add]; exact (k73_lo i hi).1) (by rw [Nat.zero_add]; exact (k73_lo i hi).2) (fun _ => rfl) (fun _ _ k hk z => by rw [Nat.zero_add]) (by rw [Nat.zero_add]) (by rw [Nat.zero_add])
    rw [Nat.zero_add] at this
    rw [this]
  · rw [List.getElem?_append_right (by rw [l1]; omega), l1]
    by_cases hj : i < 73
    · obtain ⟨j, rfl⟩ : ∃ j, i = 42 + j := ⟨i - 42, by omega⟩
      have hj : j < 31 := by omega
      rw [wl_get (show 42 + j < (sh73 v).1 from (show 42 + j < 73 by omega)), show 42 + j - 42 = j by omega, wl_get (show j < shSt.1 from hj)]
      rw [cE_cg (cy := cy) (sh := shSt) (sh' := sh73 v) (ad := fun c => ad (42 + c)) (ad' := ad) (hp := snd2 g) (hp' := g) (c := j) (o := 42) (k73_hi j hj).1 (k73_hi j hj).2 (fun z => absurd z (kSt_8 j hj)) (fun _ _ k hk z => by rw [Nat.add_assoc]) rfl rfl]
    · rw [List.getElem?_eq_none (by simp [wl, sh73, shOf]; omega), List.getElem?_eq_none (by simp [wl, shSt, shOf]; omega)]
set_option maxHeartbeats 400000 in
/-- the field kept -/
theorem wl_put0 (cy : ClassId × ClassId) (v u : Value) (ad : Nat → Nat) (h : HP) : (wl cy (shTJ v) ad h).set 0 (ad 0, .inr (8, ((List.range (nsl 8)).map (fv (shTJ v) ad h 0)).set 1 u)) = wl cy (shTJ u) ad h := by
  apply List.ext_getElem?
  intro i
  by_cases hi : i = 0
  · subst hi
    rw [List.getElem?_set_self (by simp [wl, shTJ, shOf]), cE_obj (show isK (shTJ u) 0 8 from ⟨Nat.le_of_ble_eq_true rfl, rfl⟩) (by decide)]
    rfl
  · rw [List.getElem?_set_ne (Ne.symm hi)]
    by_cases hl : i < 42
    · rw [wl_get (show i < (shTJ v).1 from hl), wl_get (show i < (shTJ u).1 from hl)]
      have := cE_cg (cy := cy) (sh := shTJ v) (sh' := shTJ u) (ad := ad) (ad' := ad) (hp := h) (hp' := h) (c := i) (o := 0) (by rw [Nat.zero_add]; rfl) (by rw [Nat.zero_add]; rfl) (fun z => absurd z (kTJ_8 i hl hi)) (fun _ _ k hk z => by rw [Nat.zero_add]) (by rw [Nat.zero_add]) (by rw [Nat.zero_add])
      rw [Nat.zero_add] at this
      rw [this]
    · rw [List.getElem?_eq_none (by simp [wl, shTJ, shOf]; omega), List.getElem?_eq_none (by simp [wl, shTJ, shOf]; omega)]
/-- two worlds of the class put together -/
def adT (aX aK : Nat → Nat) : Nat → Nat := fun c => if c < 42 then aX c else aK (c - 42)
set_option maxHeartbeats 400000 in
theorem wl_two (cy : ClassId × ClassId) (v : Value) (aX aK : Nat → Nat) (h kk : HP) : wl cy (sh73 v) (adT aX aK) (twoW h kk) = wl cy (shTJ v) aX h ++ wl cy shSt aK kk := by
  have e1 : (fun c => adT aX aK (42 + c)) = aK := by
    funext c
    show (if 42 + c < 42 then aX (42 + c) else aK (42 + c - 42)) = aK c
    rw [if_neg (by omega), show 42 + c - 42 = c by omega]
  have e2 : snd2 (twoW h kk) = kk := by
    show ((fun c => (twoW h kk).1 (42 + c)), (fun c => (twoW h kk).2 (42 + c))) = kk
    refine Prod.ext ?_ ?_
    · funext c; exact two_hi c
    · funext c
      show (if 42 + c < 42 then h.2 (42 + c) else kk.2 (42 + c - 42)) = kk.2 c
      rw [if_neg (by omega), show 42 + c - 42 = c by omega]
  rw [wl73, e1, e2, wl_cg (cy := cy) (sh := shTJ v) (ad := aX) (ad' := adT aX aK) (hp := h) (hp' := twoW h kk) (wlin_TJ v) (fun c hc => if_pos hc) (fun c hc => two_lo hc) (fun c hc => if_pos hc)]

