/-! the law's call of image -/
set_option maxHeartbeats 400000 in
theorem adT_hi (aX aK : Nat → Nat) : (fun c => adT aX aK (42 + c)) = aK := by
  funext c
  show (if 42 + c < 42 then aX (42 + c) else aK (42 + c - 42)) = aK c
  rw [if_neg (by omega), show 42 + c - 42 = c by omega]
set_option maxHeartbeats 400000 in
theorem split73 {D : va_G} {cy : ClassId × ClassId} {v : Value} {a2 aX : Nat → Nat} {g : HP} {H : Heap} (h : va_P D vwCl (wl cy (sh73 v) a2 g) H) (e : ∀ c, c < 42 → a2 c = aX c) : va_P D vwCl (wl cy (shTJ v) aX (fst2 g)) H ∧ va_P D vwCl (wl cy shSt (fun c => a2 (42 + c)) (snd2 g)) H := by
  rw [wl73] at h
  refine ⟨?_, P_right h⟩
  have := P_left h
  rw [wl_cg (cy := cy) (sh := shTJ v) (ad := aX) (ad' := a2) (hp := fst2 g) (hp' := g) (wlin_TJ v) e (fun _ _ => rfl) (fun _ _ => rfl)] at this
  exact this
section LI
variable {p : Program} {l : Launch} {e : Env} {s : State} {m : MethodId} {below : List Frame} {meth : Method} {c : Code} {b L : Nat} {xs : Nat → Int32} {D : va_G} {cy : ClassId × ClassId} {ct : Nat} {H : Heap} {locs : List Loc} {cells slots : Nat} {Q : State → Prop} {ls : Array Slot} {pc i : Nat} {aX aK aM : Nat → Nat} {K : Bool} {vk : Value} {h kk mm : HP}
set_option maxHeartbeats 2000000 in
theorem IM_run (C : LCx p s m meth c b L xs D cy ct) {sh : Shp} {ad : Nat → Nat} {hp : HP} {Post : Array Value → State → Outcome → State → Prop} {mc ms : Nat} {v : Int32} (hM : Met l q_TJ_image.1 (wsM q_TJ_image) (rmK 4 mc ms) (va_Pc [.ref (ad 0), .int v] (PreX D cy sh ad ct hp H.size)) Post mc ms (AA sh ad H.size)) (hk0 : isK sh 0 8) (hP : va_P D vwCl (wl cy sh ad hp) H) (hi : inj sh ad) (hZ : Zt ct (AA sh ad H.size) s H) (lk : LkL 163 q_TJ_image 1) (hsz : ls.size = 4) (hd : decode code pc = .ok (.invokevirtual 163, 3)) (hc : cells + mc ≤ room_1.cells ∧ slots + ms ≤ room_1.slots) : va_Run p l e room_1 s m #[Value.ref b] below meth c H locs cells slots mc ms (F0 m pc ls [.int v, .ref (ad 0)]) [] (Post ([.ref (ad 0), .int v] : List Value).toArray) (AA sh ad H.size) :=
  va_runV (As := [.int v]) (rest := []) (b := ad 0) (C := nmC q_TJ_image.2.2.2.2) C.fix hM (cwV 1 C.fix.2.2.2.2 (gw_L lk) rfl rfl rfl lk.2 ⟨Nat.le_of_ble_eq_true rfl, Nat.le_of_ble_eq_true rfl⟩) ⟨preX_blind, va_recv C.2.1 hP (kd_cl (show q_TJ_image.2.2.2.2 < 10 by decide)) (cE_obj hk0 (by decide)), fun U hU hW => ⟨rfl, by rw [hU], by rw [hU]; exact hP, va_K.moved hW.alike C.2.1, hi, by rw [hU]; exact ⟨hZ.1.moved hW.alike, hZ.2.moved hW.alike⟩, fun w hw => va_Nw.warmM hW (C.2.2.2 w hw)⟩⟩ rfl rfl hsz rfl (lv_room (Nat.le_of_ble_eq_true rfl)) hd hc
set_option maxHeartbeats 4000000 in
theorem law_imX (C : LCx p s m meth c b L xs D cy ct) (w : LWd D cy s K vk aX aK aM h kk mm H locs) (A : RA K kk h mm) (v : Int32) (lk : LkL 163 q_TJ_image 1) (hsz : ls.size = 4) (hd : decode code pc = .ok (.invokevirtual 163, 3)) (hc : cells + 31 ≤ room_1.cells ∧ slots + 2573 ≤ room_1.slots)
    (k : ∀ (K' : Bool) (vk' : Value) (aK' : Nat → Nat) (h' kk' m' : HP) (r : Int32) (H1 : Heap) (locs1 : List Loc), LWd D cy s K' vk' aX aK' aM h' kk' mm H1 locs1 → f_Mo_image 0 mm v = some (m', r) → RA K' kk' h' m' → W p l e room_1 s m #[Value.ref b] below meth c H1 locs1 (cells + 31) (slots + 2573) Q (F0 m (pc + 3) ls [.int r])) : W p l e room_1 s m #[Value.ref b] below meth c H locs cells slots Q (F0 m pc ls [.int v, .ref (aX 0)]) := by
  obtain ⟨⟨x1, x2, x3⟩, ⟨m1, m2, m3⟩, ap, im, hS⟩ := w
  have hc0 : cells + 0 ≤ room_1.cells ∧ slots + 0 ≤ room_1.slots := ⟨Nat.le_trans (Nat.add_le_add_left (Nat.zero_le _) _) hc.1, Nat.le_trans (Nat.add_le_add_left (Nat.zero_le _) _) hc.2⟩
  cases K with
  | false =>
    have im : vk = .null := im
    subst im
    have hn : ∀ x, AA (shTJ .null) aX H.size x → LA s x := fun x hx => hx.elim (fun ⟨c, hc, e⟩ => by rw [e]; exact x3 c hc) (fun h => Nat.le_trans hS.1 h)
    have hZ : Zt ct (AA (shTJ .null) aX H.size) s H := ⟨(C.2.2.1.1.kept hS.2.1).narrow hn, (C.2.2.1.2.kept hS.2.1).narrow hn⟩
    have hkM : ∀ H1 : Heap, va_S (AA (shTJ .null) aX H.size) H H1 [] → va_P D vwCl (wl cy shMo aM mm) H1 := fun H1 hF => wl_kept m1 (fun c hc => hF.2.1 _ (wl_lt m1 hc) (fun z => z.elim (fun ⟨i, hi, e⟩ => ap i c hi hc e.symm) (fun z => absurd (wl_lt m1 hc) (by omega))))
    by_cases hv : v = 0
    · subst hv
      have hrun := IM_run (e := e) (below := below) (meth := meth) (locs := locs) (cells := cells) (slots := slots) (ls := ls) (pc := pc) C (im_N l D cy aX ct H.size h) ⟨by decide, rfl⟩ x1 x2 hZ lk hsz hd hc0
      refine callG2 (v := some (.int 0)) (B := fun H1 => va_P D vwCl (wl cy (shTJ .null) aX h) H1) (A1 := AA (shTJ .null) aX H.size) hrun hS (fun x _ z => hn x z) hn (fun H1 locs1 hB hF hS1 => ?_)
      exact W.widen (Nat.add_le_add_left (Nat.zero_le _) _) (Nat.add_le_add_left (Nat.zero_le _) _) (k false .null aK h kk mm 0 H1 locs1 ⟨⟨hB, x2, x3⟩, ⟨hkM H1 hF, m2, m3⟩, ap, rfl, hS1⟩ (img_none A) A)
    · have hrun := IM_run (e := e) (below := below) (meth := meth) (locs := locs) (cells := cells) (slots := slots) (ls := ls) (pc := pc) C (im_T0 l D cy aX ct H.size h v hv (fun g => ∃ m', f_Mo_image 0 mm v = some (m', 1) ∧ RA true (snd2 g) (fst2 g) m') (fun k0 => by
        obtain ⟨g, m', e1, e2, -, e3⟩ := img_take (k0 := k0) A v hv
        exact ⟨g, e1, m', e2, e3⟩)) ⟨by decide, rfl⟩ x1 x2 hZ lk hsz hd hc
      refine callG2 (v := some (.int 1)) (B := BT D cy aX (fun g => ∃ m', f_Mo_image 0 mm v = some (m', 1) ∧ RA true (snd2 g) (fst2 g) m') H.size) (A1 := AA (shTJ .null) aX H.size) hrun hS (fun x _ z => hn x z) hn (fun H1 locs1 hB hF hS1 => ?_)
      obtain ⟨a2, g, ⟨m', e2, e3⟩, elo, hi2, hge, hP⟩ := hB
      obtain ⟨hP1, hP2⟩ := split73 hP elo
      have hXlt : ∀ j, j < 42 → aX j < H.size := fun j hj => wl_lt x1 hj
      refine k true (.ref (a2 42)) (fun c => a2 (42 + c)) (fst2 g) (snd2 g) m' 1 H1 locs1 ⟨⟨hP1, x2, x3⟩, ⟨hkM H1 hF, m2, m3⟩, ap, ⟨rfl, hP2, fun i j hi hj z => ?_, fun c hc => ?_, fun i j hi hj z => ?_, fun i j hi hj z => ?_⟩, hS1⟩ e2 e3
      · have hi : i < 31 := hi
        have hj : j < 31 := hj
        have := hi2 (42 + i) (42 + j) (show 42 + i < 73 by omega) (show 42 + j < 73 by omega) z
        omega
      · exact Nat.le_trans hS.1 (hge (42 + c) (by omega) (by omega))
      · have h1 := hXlt j hj
        have h2 := hge (42 + i) (by omega) (by omega)
        have z : a2 (42 + i) = aX j := z
        omega
      · have h1 : aM j < H.size := wl_lt m1 hj
        have h2 := hge (42 + i) (by omega) (by omega)
        have z : a2 (42 + i) = aM j := z
        omega
  | true =>
    obtain ⟨i1, i2, i3, i4, i5, i6⟩ := im
    subst i1
    obtain ⟨ad, had⟩ : ∃ ad, ad = adT aX aK := ⟨_, rfl⟩
    have e42 : ad 42 = aK 0 := by rw [had]; rfl
    have elo : ∀ c, c < 42 → ad c = aX c := fun c hc => by rw [had]; exact if_pos hc
    have ehi : ∀ c, 42 ≤ c → ad c = aK (c - 42) := fun c hc => by rw [had]; exact if_neg (by omega)
    have hP : va_P D vwCl (wl cy (sh73 (.ref (ad 42))) ad (twoW h kk)) H := by rw [e42, had, wl_two]; exact x1.app i2
    have hge : ∀ c, c < 73 → s.heap.size ≤ ad c := fun c hc => by
      by_cases z : c < 42
      · rw [elo c z]; exact x3 c z
      · rw [ehi c (by omega)]; exact i4 _ (by omega)
    have hi2 : inj (sh73 (.ref (ad 42))) ad := fun i j hi hj z => by
      have hi : i < 73 := hi
      have hj : j < 73 := hj
      by_cases i4 : i < 42
      · by_cases j4 : j < 42
        · rw [elo i i4, elo j j4] at z; exact x2 i j i4 j4 z
        · rw [elo i i4, ehi j (by omega)] at z
          exact absurd z.symm (i5 (j - 42) i (by omega) i4)
      · by_cases j4 : j < 42
        · rw [elo j j4, ehi i (by omega)] at z
          exact absurd z (i5 (i - 42) j (by omega) j4)
        · rw [ehi i (by omega), ehi j (by omega)] at z
          have := i3 (i - 42) (j - 42) (show i - 42 < 31 by omega) (show j - 42 < 31 by omega) z
          omega
    have hn : ∀ x, AA (sh73 (.ref (ad 42))) ad H.size x → LA s x := fun x hx => hx.elim (fun ⟨c, hc, e⟩ => by rw [e]; exact hge c hc) (fun h => Nat.le_trans hS.1 h)
    have hZ : Zt ct (AA (sh73 (.ref (ad 42))) ad H.size) s H := ⟨(C.2.2.1.1.kept hS.2.1).narrow hn, (C.2.2.1.2.kept hS.2.1).narrow hn⟩
    have hkM : ∀ H1 : Heap, va_S (AA (sh73 (.ref (ad 42))) ad H.size) H H1 [] → va_P D vwCl (wl cy shMo aM mm) H1 := fun H1 hF => wl_kept m1 (fun c hc => hF.2.1 _ (wl_lt m1 hc) (fun z => z.elim (fun ⟨i, hi, e⟩ => by
      have hi : i < 73 := hi
      by_cases i4 : i < 42
      · rw [elo i i4] at e; exact ap i c i4 hc e.symm
      · rw [ehi i (by omega)] at e; exact i6 (i - 42) c (by omega) hc e.symm) (fun z => absurd (wl_lt m1 hc) (by omega))))
    have haK : (fun c => ad (42 + c)) = aK := by rw [had]; exact adT_hi aX aK
    have fin : ∀ (g m' : HP) (r : Int32) (H1 : Heap) (locs1 : List Loc), va_P D vwCl (wl cy (sh73 (.ref (ad 42))) ad g) H1 → va_S (AA (sh73 (.ref (ad 42))) ad H.size) H H1 [] → va_S (LA s) s.heap H1 locs1 → f_Mo_image 0 mm v = some (m', r) → RA true (snd2 g) (fst2 g) m' → W p l e room_1 s m #[Value.ref b] below meth c H1 locs1 (cells + 31) (slots + 2573) Q (F0 m (pc + 3) ls [.int r]) := fun g m' r H1 locs1 hB hF hS1 e2 e3 => by
      obtain ⟨hP1, hP2⟩ := split73 hB elo
      rw [haK] at hP2
      rw [e42] at hP1
      exact k true (.ref (aK 0)) aK (fst2 g) (snd2 g) m' r H1 locs1 ⟨⟨hP1, x2, x3⟩, ⟨hkM H1 hF, m2, m3⟩, ap, ⟨rfl, hP2, i3, i4, i5, i6⟩, hS1⟩ e2 e3
    have hl0 : aX 0 = ad 0 := (elo 0 (by decide)).symm
    rw [hl0]
    by_cases hv : v = 0
    · subst hv
      obtain ⟨g, m', e1, e2, e3⟩ := img_back A
      have hrun := IM_run (e := e) (below := below) (meth := meth) (locs := locs) (cells := cells) (slots := slots) (ls := ls) (pc := pc) C (im_B l D cy ad ct H.size (twoW h kk) g e1) ⟨Nat.le_of_ble_eq_true rfl, rfl⟩ hP hi2 hZ lk hsz hd hc0
      refine callG2 (v := some (.int 1)) (B := fun H1 => va_P D vwCl (wl cy (sh73 (.ref (ad 42))) ad g) H1) (A1 := AA (sh73 (.ref (ad 42))) ad H.size) hrun hS (fun x _ z => hn x z) hn (fun H1 locs1 hB hF hS1 => ?_)
      exact W.widen (Nat.add_le_add_left (Nat.zero_le _) _) (Nat.add_le_add_left (Nat.zero_le _) _) (fin g m' 1 H1 locs1 hB hF hS1 e2 e3)
    · obtain ⟨g, m', e1, e2, -, e3⟩ := img_take (k0 := kk) A v hv
      have hrun := IM_run (e := e) (below := below) (meth := meth) (locs := locs) (cells := cells) (slots := slots) (ls := ls) (pc := pc) C (im_T1 l D cy ad ct H.size (twoW h kk) g v hv e1) ⟨Nat.le_of_ble_eq_true rfl, rfl⟩ hP hi2 hZ lk hsz hd hc0
      refine callG2 (v := some (.int 1)) (B := fun H1 => va_P D vwCl (wl cy (sh73 (.ref (ad 42))) ad g) H1) (A1 := AA (sh73 (.ref (ad 42))) ad H.size) hrun hS (fun x _ z => hn x z) hn (fun H1 locs1 hB hF hS1 => ?_)
      exact W.widen (Nat.add_le_add_left (Nat.zero_le _) _) (Nat.add_le_add_left (Nat.zero_le _) _) (fin g m' 1 H1 locs1 hB hF hS1 e2 e3)
end LI
