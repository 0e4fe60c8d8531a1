set_option maxHeartbeats 4000000 in
set_option maxRecDepth 20000 in
theorem t_TJ_isSet (sh : Shp) (hp : HP) (v0 : Int32) (res : Int32) (hf : f_TJ_isSet v0 = some res) : Ex 1 q_TJ_isSet sh [.int v0] hp (some (.int res)) hp := by
  refine Ex.of [some (.int v0)] rfl (Nat.le_of_ble_eq_true rfl) (by decide +kernel) rfl ?_
  obtain ⟨t, hk⟩ : ∃ t, t = res := ⟨res, rfl⟩
  rw [← hk] at hf
  unfold f_TJ_isSet at hf
  refine Fx.run [(.iload_n 0, 1, 0, 0, .null)] 1 (by decide +kernel) ?_
  show Fx q_TJ_isSet 1 sh 1 [some (.int v0)] [.int v0] hp (some (.int res)) hp
  refine Fx.if_lt (14) 15 4 (by decide +kernel) (fun b1 => ?_) (fun b1 => ?_)
  · replace hf := ifp b1 hf
    refine Fx.run [(.iconst 0, 1, 0, 0, .int 0)] 16 (by decide +kernel) ?_
    show Fx q_TJ_isSet 1 sh 16 [some (.int v0)] [.int 0] hp (some (.int res)) hp
    obtain rfl := Option.some.inj hf
    have hk : 0 = res := hk
    subst hk
    exact Fx.zret (by decide +kernel) rfl (Or.inl rfl)
  · replace hf := ifn b1 hf
    refine Fx.run [(.iload_n 0, 1, 0, 0, .null), (.sipush 8191, 3, 0, 0, .int 8191)] 8 (by decide +kernel) ?_
    show Fx q_TJ_isSet 1 sh 8 [some (.int v0)] [.int 8191, .int v0] hp (some (.int res)) hp
    refine Fx.icmp_gt (7) 15 11 (by decide +kernel) (fun b2 => ?_) (fun b2 => ?_)
    · replace hf := ifp b2 hf
      refine Fx.run [(.iconst 0, 1, 0, 0, .int 0)] 16 (by decide +kernel) ?_
      show Fx q_TJ_isSet 1 sh 16 [some (.int v0)] [.int 0] hp (some (.int res)) hp
      obtain rfl := Option.some.inj hf
      have hk : 0 = res := hk
      subst hk
      exact Fx.zret (by decide +kernel) rfl (Or.inl rfl)
    · replace hf := ifn b2 hf
      refine Fx.run [(.iconst 1, 1, 0, 0, .int 1)] 12 (by decide +kernel) ?_
      show Fx q_TJ_isSet 1 sh 12 [some (.int v0)] [.int 1] hp (some (.int res)) hp
      refine Fx.goto (4) 16 (by decide +kernel) ?_
      obtain rfl := Option.some.inj hf
      have hk : 1 = res := hk
      subst hk
      exact Fx.zret (by decide +kernel) rfl (Or.inr rfl)
abbrev P_TJ_turned_4 (sh : Shp) (hp : HP) (v0 : Int32) (res : Int32) : (Int32 × Int32) → Prop := fun s => Fx q_TJ_turned 2 sh 4 [some (.int v0), some (.int s.1), some (.int s.2)] [] hp (some (.int res)) hp
set_option maxHeartbeats 4000000 in
set_option maxRecDepth 20000 in
theorem t_TJ_turned_l4 (sh : Shp) (hp : HP) (v0 : Int32) (res : Int32) : ∀ (s : (Int32 × Int32)) (t : Int32), f_TJ_turned_l4 v0 s = some t → (fun v => v = res) t → P_TJ_turned_4 sh hp v0 res s := by
  refine loop_ind (P_TJ_turned_4 sh hp v0 res) (fun v => v = res) ?_
  intro s t hf hk
  obtain ⟨v1, v2⟩ := s
  replace hf : f_TJ_turned_b4 v0 v1 v2 = some t := hf
  show Fx q_TJ_turned 2 sh 4 [some (.int v0), some (.int v1), some (.int v2)] [] hp (some (.int res)) hp
  unfold f_TJ_turned_b4 at hf
  refine Fx.run [(.iload_n 2, 1, 2, 0, .null), (.bipush 13, 2, 0, 0, .int 13)] 7 (by decide +kernel) ?_
  show Fx q_TJ_turned 2 sh 7 [some (.int v0), some (.int v1), some (.int v2)] [.int 13, .int v2] hp (some (.int res)) hp
  refine Fx.icmp_ge (26) 33 10 (by decide +kernel) (fun b1 => ?_) (fun b1 => ?_)
  · replace hf := ifp b1 hf
    replace hf := mpd hf
    obtain ⟨t, hf, rfl⟩ := hf
    refine Fx.run [(.iload_n 1, 1, 1, 0, .null)] 34 (by decide +kernel) ?_
    show Fx q_TJ_turned 2 sh 34 [some (.int v0), some (.int v1), some (.int v2)] [.int v1] hp (some (.int res)) hp
    obtain rfl := Option.some.inj hf
    have hk : v1 = res := hk
    subst hk
    exact Fx.iret (by decide +kernel) rfl
  · replace hf := ifn b1 hf
    refine Fx.run [(.iload_n 0, 1, 0, 0, .null), (.iload_n 2, 1, 2, 0, .null)] 12 (by decide +kernel) ?_
    show Fx q_TJ_turned 2 sh 12 [some (.int v0), some (.int v1), some (.int v2)] [.int v2, .int v0] hp (some (.int res)) hp
    replace hf := bnd hf
    obtain ⟨r2, hr2, hf⟩ := hf
    refine Fx.callS (rr := (some (.int r2))) (hp1 := hp) [.int v0, .int v2] [] lk_8_393 (by decide +kernel) (t_TJ_holds sh hp v0 v2 r2 hr2) ⟨Nat.le_of_ble_eq_true rfl, Nat.le_of_ble_eq_true rfl⟩ rfl (Nat.le_of_ble_eq_true rfl) ?_
    show Fx q_TJ_turned 2 sh 15 [some (.int v0), some (.int v1), some (.int v2)] [.int r2] hp (some (.int res)) hp
    refine Fx.if_eq (12) 27 18 (by decide +kernel) (fun b3 => ?_) (fun b3 => ?_)
    · replace hf := ifp b3 hf
      refine Fx.run [(.iinc 2 1, 3, 2, 0, .int 1)] 30 (by decide +kernel) ?_
      show Fx q_TJ_turned 2 sh 30 [some (.int v0), some (.int v1), some (.int (v2 + 1))] [] hp (some (.int res)) hp
      refine Fx.goto (-26) 4 (by decide +kernel) ?_
      obtain rfl := Option.some.inj hf
      have hk : Fx q_TJ_turned 2 sh 4 [some (.int v0), some (.int v1), some (.int (v2 + 1))] [] hp (some (.int res)) hp := hk
      exact Fx.le hk (And.intro rfl (And.intro rfl (And.intro rfl trivial)))
    · replace hf := ifn b3 hf
      refine Fx.run [(.iload_n 1, 1, 1, 0, .null), (.iconst 1, 1, 0, 0, .int 1), (.bipush 12, 2, 0, 0, .int 12), (.iload_n 2, 1, 2, 0, .null), (.isub, 1, 0, 0, .null), (.ishl, 1, 0, 0, .null), (.ior, 1, 0, 0, .null), (.istore_n 1, 1, 1, 0, .null), (.iinc 2 1, 3, 2, 0, .int 1)] 30 (by decide +kernel) ?_
      show Fx q_TJ_turned 2 sh 30 [some (.int v0), some (.int (v1 ||| (1 <<< ((12 - v2) &&& 31)))), some (.int (v2 + 1))] [] hp (some (.int res)) hp
      refine Fx.goto (-26) 4 (by decide +kernel) ?_
      obtain rfl := Option.some.inj hf
      have hk : Fx q_TJ_turned 2 sh 4 [some (.int v0), some (.int (v1 ||| (1 <<< ((12 - v2) &&& 31)))), some (.int (v2 + 1))] [] hp (some (.int res)) hp := hk
      exact Fx.le hk (And.intro rfl (And.intro rfl (And.intro rfl trivial)))
set_option maxHeartbeats 4000000 in
set_option maxRecDepth 20000 in
theorem t_TJ_turned (sh : Shp) (hp : HP) (v0 : Int32) (res : Int32) (hf : f_TJ_turned v0 = some res) : Ex 2 q_TJ_turned sh [.int v0] hp (some (.int res)) hp := by
  refine Ex.of [some (.int v0), none, none] rfl (Nat.le_of_ble_eq_true rfl) (by decide +kernel) rfl ?_
  obtain ⟨t, hk⟩ : ∃ t, t = res := ⟨res, rfl⟩
  rw [← hk] at hf
  unfold f_TJ_turned at hf
  refine Fx.run [(.iconst 0, 1, 0, 0, .int 0), (.istore_n 1, 1, 1, 0, .null), (.iconst 0, 1, 0, 0, .int 0), (.istore_n 2, 1, 2, 0, .null)] 4 (by decide +kernel) ?_
  show Fx q_TJ_turned 2 sh 4 [some (.int v0), some (.int 0), some (.int 0)] [] hp (some (.int res)) hp
  have hl := t_TJ_turned_l4 sh hp v0 res (0, 0) _ hf hk
  have hl : Fx q_TJ_turned 2 sh 4 [some (.int v0), some (.int 0), some (.int 0)] [] hp (some (.int res)) hp := hl
  exact Fx.le hl (And.intro rfl (And.intro rfl (And.intro rfl trivial)))
set_option maxHeartbeats 4000000 in
set_option maxRecDepth 20000 in
theorem t_TJ_converse (sh : Shp) (c : Nat) (hS : S_TJ sh c) (hp : HP) (v1 : Int32) (res : Int32) (hf : f_TJ_converse c hp v1 = some res) : Ex 3 q_TJ_converse sh [.ref c, .int v1] hp (some (.int res)) hp := by
  refine Ex.of [some (.ref c), some (.int v1)] rfl (Nat.le_of_ble_eq_true rfl) (by decide +kernel) rfl ?_
  obtain ⟨t, hk⟩ : ∃ t, t = res := ⟨res, rfl⟩
  rw [← hk] at hf
  unfold f_TJ_converse at hf
  refine Fx.run [(.iload_n 1, 1, 1, 0, .null)] 1 (by decide +kernel) ?_
  show Fx q_TJ_converse 3 sh 1 [some (.ref c), some (.int v1)] [.int v1] hp (some (.int res)) hp
  replace hf := bnd hf
  obtain ⟨r1, hr1, hf⟩ := hf
  refine Fx.callS (rr := (some (.int r1))) (hp1 := hp) [.int v1] [] lk_8_338 (by decide +kernel) (t_TJ_isSet sh hp v1 r1 hr1) ⟨Nat.le_of_ble_eq_true rfl, Nat.le_of_ble_eq_true rfl⟩ rfl (Nat.le_of_ble_eq_true rfl) ?_
  show Fx q_TJ_converse 3 sh 4 [some (.ref c), some (.int v1)] [.int r1] hp (some (.int res)) hp
  refine Fx.if_eq (10) 14 7 (by decide +kernel) (fun b2 => ?_) (fun b2 => ?_)
  · replace hf := ifp b2 hf
    refine Fx.run [(.iconst (-1), 1, 0, 0, .int (-1))] 15 (by decide +kernel) ?_
    show Fx q_TJ_converse 3 sh 15 [some (.ref c), some (.int v1)] [.int (-1)] hp (some (.int res)) hp
    obtain rfl := Option.some.inj hf
    have hk : (-1) = res := hk
    subst hk
    exact Fx.iret (by decide +kernel) rfl
  · replace hf := ifn b2 hf
    refine Fx.run [(.iload_n 1, 1, 1, 0, .null)] 8 (by decide +kernel) ?_
    show Fx q_TJ_converse 3 sh 8 [some (.ref c), some (.int v1)] [.int v1] hp (some (.int res)) hp
    replace hf := bnd hf
    obtain ⟨r3, hr3, hf⟩ := hf
    refine Fx.callS (rr := (some (.int r3))) (hp1 := hp) [.int v1] [] lk_8_341 (by decide +kernel) (t_TJ_turned sh hp v1 r3 hr3) ⟨Nat.le_of_ble_eq_true rfl, Nat.le_of_ble_eq_true rfl⟩ rfl (Nat.le_of_ble_eq_true rfl) ?_
    show Fx q_TJ_converse 3 sh 11 [some (.ref c), some (.int v1)] [.int r3] hp (some (.int res)) hp
    refine Fx.goto (4) 15 (by decide +kernel) ?_
    obtain rfl := Option.some.inj hf
    have hk : r3 = res := hk
    subst hk
    exact Fx.iret (by decide +kernel) rfl
abbrev P_TJ_composedOfOne_4 (sh : Shp) (hp : HP) (v0 : Int32) (v1 : Int32) (res : Int32) : (Int32 × Int32) → Prop := fun s => Fx q_TJ_composedOfOne 2 sh 4 [some (.int v0), some (.int v1), some (.int s.1), some (.int s.2)] [] hp (some (.int res)) hp
set_option maxHeartbeats 4000000 in
set_option maxRecDepth 20000 in
theorem t_TJ_composedOfOne_l4 (sh : Shp) (hp : HP) (v0 : Int32) (v1 : Int32) (res : Int32) : ∀ (s : (Int32 × Int32)) (t : Int32), f_TJ_composedOfOne_l4 v0 v1 s = some t → (fun v => v = res) t → P_TJ_composedOfOne_4 sh hp v0 v1 res s := by
  refine loop_ind (P_TJ_composedOfOne_4 sh hp v0 v1 res) (fun v => v = res) ?_
  intro s t hf hk
  obtain ⟨v2, v3⟩ := s
  replace hf : f_TJ_composedOfOne_b4 v0 v1 v2 v3 = some t := hf
  show Fx q_TJ_composedOfOne 2 sh 4 [some (.int v0), some (.int v1), some (.int v2), some (.int v3)] [] hp (some (.int res)) hp
  unfold f_TJ_composedOfOne_b4 at hf
  refine Fx.run [(.iload_n 3, 1, 3, 0, .null), (.bipush 13, 2, 0, 0, .int 13)] 7 (by decide +kernel) ?_
  show Fx q_TJ_composedOfOne 2 sh 7 [some (.int v0), some (.int v1), some (.int v2), some (.int v3)] [.int 13, .int v3] hp (some (.int res)) hp
  refine Fx.icmp_ge (30) 37 10 (by decide +kernel) (fun b1 => ?_) (fun b1 => ?_)
  · replace hf := ifp b1 hf
    replace hf := mpd hf
    obtain ⟨t, hf, rfl⟩ := hf
    refine Fx.run [(.iload_n 2, 1, 2, 0, .null)] 38 (by decide +kernel) ?_
    show Fx q_TJ_composedOfOne 2 sh 38 [some (.int v0), some (.int v1), some (.int v2), some (.int v3)] [.int v2] hp (some (.int res)) hp
    obtain rfl := Option.some.inj hf
    have hk : v2 = res := hk
    subst hk
    exact Fx.iret (by decide +kernel) rfl
  · replace hf := ifn b1 hf
    refine Fx.run [(.iload_n 1, 1, 1, 0, .null), (.iload_n 3, 1, 3, 0, .null)] 12 (by decide +kernel) ?_
    show Fx q_TJ_composedOfOne 2 sh 12 [some (.int v0), some (.int v1), some (.int v2), some (.int v3)] [.int v3, .int v1] hp (some (.int res)) hp
    replace hf := bnd hf
    obtain ⟨r2, hr2, hf⟩ := hf
    refine Fx.callS (rr := (some (.int r2))) (hp1 := hp) [.int v1, .int v3] [] lk_8_393 (by decide +kernel) (t_TJ_holds sh hp v1 v3 r2 hr2) ⟨Nat.le_of_ble_eq_true rfl, Nat.le_of_ble_eq_true rfl⟩ rfl (Nat.le_of_ble_eq_true rfl) ?_
    show Fx q_TJ_composedOfOne 2 sh 15 [some (.int v0), some (.int v1), some (.int v2), some (.int v3)] [.int r2] hp (some (.int res)) hp
    refine Fx.if_eq (16) 31 18 (by decide +kernel) (fun b3 => ?_) (fun b3 => ?_)
    · replace hf := ifp b3 hf
      refine Fx.run [(.iinc 3 1, 3, 3, 0, .int 1)] 34 (by decide +kernel) ?_
      show Fx q_TJ_composedOfOne 2 sh 34 [some (.int v0), some (.int v1), some (.int v2), some (.int (v3 + 1))] [] hp (some (.int res)) hp
      refine Fx.goto (-30) 4 (by decide +kernel) ?_
      obtain rfl := Option.some.inj hf
      have hk : Fx q_TJ_composedOfOne 2 sh 4 [some (.int v0), some (.int v1), some (.int v2), some (.int (v3 + 1))] [] hp (some (.int res)) hp := hk
      exact Fx.le hk (And.intro rfl (And.intro rfl (And.intro rfl (And.intro rfl trivial))))
    · replace hf := ifn b3 hf
      replace hf := gd hf
      obtain ⟨g4, hf⟩ := hf
      refine Fx.run [(.iload_n 2, 1, 2, 0, .null), (.getstatic 399, 3, 0, 0, .null), (.iload_n 0, 1, 0, 0, .null), (.bipush 13, 2, 0, 0, .int 13), (.imul, 1, 0, 0, .null), (.iload_n 3, 1, 3, 0, .null), (.iadd, 1, 0, 0, .null), (.iaload, 1, 0, 0, .null), (.ior, 1, 0, 0, .null), (.istore_n 2, 1, 2, 0, .null), (.iinc 3 1, 3, 3, 0, .int 1)] 34 (by decide +kernel) ?_
      show inb ((v0 * 13) + v3) 169 ∧ Fx q_TJ_composedOfOne 2 sh 34 [some (.int v0), some (.int v1), some (.int (v2 ||| (cmpT (ix ((v0 * 13) + v3))))), some (.int (v3 + 1))] [] hp (some (.int res)) hp
      refine ⟨g4, ?_⟩
      refine Fx.goto (-30) 4 (by decide +kernel) ?_
      obtain rfl := Option.some.inj hf
      have hk : Fx q_TJ_composedOfOne 2 sh 4 [some (.int v0), some (.int v1), some (.int (v2 ||| (cmpT (ix ((v0 * 13) + v3))))), some (.int (v3 + 1))] [] hp (some (.int res)) hp := hk
      exact Fx.le hk (And.intro rfl (And.intro rfl (And.intro rfl (And.intro rfl trivial))))
set_option maxHeartbeats 4000000 in
set_option maxRecDepth 20000 in
theorem t_TJ_composedOfOne (sh : Shp) (hp : HP) (v0 : Int32) (v1 : Int32) (res : Int32) (hf : f_TJ_composedOfOne v0 v1 = some res) : Ex 2 q_TJ_composedOfOne sh [.int v0, .int v1] hp (some (.int res)) hp := by
  refine Ex.of [some (.int v0), some (.int v1), none, none] rfl (Nat.le_of_ble_eq_true rfl) (by decide +kernel) rfl ?_
  obtain ⟨t, hk⟩ : ∃ t, t = res := ⟨res, rfl⟩
  rw [← hk] at hf
  unfold f_TJ_composedOfOne at hf
  refine Fx.run [(.iconst 0, 1, 0, 0, .int 0), (.istore_n 2, 1, 2, 0, .null), (.iconst 0, 1, 0, 0, .int 0), (.istore_n 3, 1, 3, 0, .null)] 4 (by decide +kernel) ?_
  show Fx q_TJ_composedOfOne 2 sh 4 [some (.int v0), some (.int v1), some (.int 0), some (.int 0)] [] hp (some (.int res)) hp
  have hl := t_TJ_composedOfOne_l4 sh hp v0 v1 res (0, 0) _ hf hk
  have hl : Fx q_TJ_composedOfOne 2 sh 4 [some (.int v0), some (.int v1), some (.int 0), some (.int 0)] [] hp (some (.int res)) hp := hl
  exact Fx.le hl (And.intro rfl (And.intro rfl (And.intro rfl (And.intro rfl trivial))))
abbrev P_TJ_composed_4 (sh : Shp) (hp : HP) (v0 : Int32) (v1 : Int32) (res : Int32) : (Int32 × Int32) → Prop := fun s => Fx q_TJ_composed 3 sh 4 [some (.int v0), some (.int v1), some (.int s.1), some (.int s.2)] [] hp (some (.int res)) hp
set_option maxHeartbeats 4000000 in
set_option maxRecDepth 20000 in
theorem t_TJ_composed_l4 (sh : Shp) (hp : HP) (v0 : Int32) (v1 : Int32) (res : Int32) : ∀ (s : (Int32 × Int32)) (t : Int32), f_TJ_composed_l4 v0 v1 s = some t → (fun v => v = res) t → P_TJ_composed_4 sh hp v0 v1 res s := by
  refine loop_ind (P_TJ_composed_4 sh hp v0 v1 res) (fun v => v = res) ?_
  intro s t hf hk
  obtain ⟨v2, v3⟩ := s
  replace hf : f_TJ_composed_b4 v0 v1 v2 v3 = some t := hf
  show Fx q_TJ_composed 3 sh 4 [some (.int v0), some (.int v1), some (.int v2), some (.int v3)] [] hp (some (.int res)) hp
  unfold f_TJ_composed_b4 at hf
  refine Fx.run [(.iload_n 3, 1, 3, 0, .null), (.bipush 13, 2, 0, 0, .int 13)] 7 (by decide +kernel) ?_
  show Fx q_TJ_composed 3 sh 7 [some (.int v0), some (.int v1), some (.int v2), some (.int v3)] [.int 13, .int v3] hp (some (.int res)) hp
  refine Fx.icmp_ge (25) 32 10 (by decide +kernel) (fun b1 => ?_) (fun b1 => ?_)
  · replace hf := ifp b1 hf
    replace hf := mpd hf
    obtain ⟨t, hf, rfl⟩ := hf
    refine Fx.run [(.iload_n 2, 1, 2, 0, .null)] 33 (by decide +kernel) ?_
    show Fx q_TJ_composed 3 sh 33 [some (.int v0), some (.int v1), some (.int v2), some (.int v3)] [.int v2] hp (some (.int res)) hp
    obtain rfl := Option.some.inj hf
    have hk : v2 = res := hk
    subst hk
    exact Fx.iret (by decide +kernel) rfl
  · replace hf := ifn b1 hf
    refine Fx.run [(.iload_n 0, 1, 0, 0, .null), (.iload_n 3, 1, 3, 0, .null)] 12 (by decide +kernel) ?_
    show Fx q_TJ_composed 3 sh 12 [some (.int v0), some (.int v1), some (.int v2), some (.int v3)] [.int v3, .int v0] hp (some (.int res)) hp
    replace hf := bnd hf
    obtain ⟨r2, hr2, hf⟩ := hf
    refine Fx.callS (rr := (some (.int r2))) (hp1 := hp) [.int v0, .int v3] [] lk_8_393 (by decide +kernel) (t_TJ_holds sh hp v0 v3 r2 hr2) ⟨Nat.le_of_ble_eq_true rfl, Nat.le_of_ble_eq_true rfl⟩ rfl (Nat.le_of_ble_eq_true rfl) ?_
    show Fx q_TJ_composed 3 sh 15 [some (.int v0), some (.int v1), some (.int v2), some (.int v3)] [.int r2] hp (some (.int res)) hp
    refine Fx.if_eq (11) 26 18 (by decide +kernel) (fun b3 => ?_) (fun b3 => ?_)
    · replace hf := ifp b3 hf
      refine Fx.run [(.iinc 3 1, 3, 3, 0, .int 1)] 29 (by decide +kernel) ?_
      show Fx q_TJ_composed 3 sh 29 [some (.int v0), some (.int v1), some (.int v2), some (.int (v3 + 1))] [] hp (some (.int res)) hp
      refine Fx.goto (-25) 4 (by decide +kernel) ?_
      obtain rfl := Option.some.inj hf
      have hk : Fx q_TJ_composed 3 sh 4 [some (.int v0), some (.int v1), some (.int v2), some (.int (v3 + 1))] [] hp (some (.int res)) hp := hk
      exact Fx.le hk (And.intro rfl (And.intro rfl (And.intro rfl (And.intro rfl trivial))))
    · replace hf := ifn b3 hf
      refine Fx.run [(.iload_n 2, 1, 2, 0, .null), (.iload_n 3, 1, 3, 0, .null), (.iload_n 1, 1, 1, 0, .null)] 21 (by decide +kernel) ?_
      show Fx q_TJ_composed 3 sh 21 [some (.int v0), some (.int v1), some (.int v2), some (.int v3)] [.int v1, .int v3, .int v2] hp (some (.int res)) hp
      replace hf := bnd hf
      obtain ⟨r4, hr4, hf⟩ := hf
      refine Fx.callS (rr := (some (.int r4))) (hp1 := hp) [.int v3, .int v1] [.int v2] lk_8_396 (by decide +kernel) (t_TJ_composedOfOne sh hp v3 v1 r4 hr4) ⟨Nat.le_of_ble_eq_true rfl, Nat.le_of_ble_eq_true rfl⟩ rfl (Nat.le_of_ble_eq_true rfl) ?_
      show Fx q_TJ_composed 3 sh 24 [some (.int v0), some (.int v1), some (.int v2), some (.int v3)] [.int r4, .int v2] hp (some (.int res)) hp
      refine Fx.run [(.ior, 1, 0, 0, .null), (.istore_n 2, 1, 2, 0, .null), (.iinc 3 1, 3, 3, 0, .int 1)] 29 (by decide +kernel) ?_
      show Fx q_TJ_composed 3 sh 29 [some (.int v0), some (.int v1), some (.int (v2 ||| r4)), some (.int (v3 + 1))] [] hp (some (.int res)) hp
      refine Fx.goto (-25) 4 (by decide +kernel) ?_
      obtain rfl := Option.some.inj hf
      have hk : Fx q_TJ_composed 3 sh 4 [some (.int v0), some (.int v1), some (.int (v2 ||| r4)), some (.int (v3 + 1))] [] hp (some (.int res)) hp := hk
      exact Fx.le hk (And.intro rfl (And.intro rfl (And.intro rfl (And.intro rfl trivial))))
set_option maxHeartbeats 4000000 in
set_option maxRecDepth 20000 in
theorem t_TJ_composed (sh : Shp) (hp : HP) (v0 : Int32) (v1 : Int32) (res : Int32) (hf : f_TJ_composed v0 v1 = some res) : Ex 3 q_TJ_composed sh [.int v0, .int v1] hp (some (.int res)) hp := by
  refine Ex.of [some (.int v0), some (.int v1), none, none] rfl (Nat.le_of_ble_eq_true rfl) (by decide +kernel) rfl ?_
  obtain ⟨t, hk⟩ : ∃ t, t = res := ⟨res, rfl⟩
  rw [← hk] at hf
  unfold f_TJ_composed at hf
  refine Fx.run [(.iconst 0, 1, 0, 0, .int 0), (.istore_n 2, 1, 2, 0, .null), (.iconst 0, 1, 0, 0, .int 0), (.istore_n 3, 1, 3, 0, .null)] 4 (by decide +kernel) ?_
  show Fx q_TJ_composed 3 sh 4 [some (.int v0), some (.int v1), some (.int 0), some (.int 0)] [] hp (some (.int res)) hp
  have hl := t_TJ_composed_l4 sh hp v0 v1 res (0, 0) _ hf hk
  have hl : Fx q_TJ_composed 3 sh 4 [some (.int v0), some (.int v1), some (.int 0), some (.int 0)] [] hp (some (.int res)) hp := hl
  exact Fx.le hl (And.intro rfl (And.intro rfl (And.intro rfl (And.intro rfl trivial))))
set_option maxHeartbeats 4000000 in
set_option maxRecDepth 20000 in
theorem t_TJ_compose (sh : Shp) (c : Nat) (hS : S_TJ sh c) (hp : HP) (v1 : Int32) (v2 : Int32) (res : Int32) (hf : f_TJ_compose c hp v1 v2 = some res) : Ex 4 q_TJ_compose sh [.ref c, .int v1, .int v2] hp (some (.int res)) hp := by
  refine Ex.of [some (.ref c), some (.int v1), some (.int v2)] rfl (Nat.le_of_ble_eq_true rfl) (by decide +kernel) rfl ?_
  obtain ⟨t, hk⟩ : ∃ t, t = res := ⟨res, rfl⟩
  rw [← hk] at hf
  unfold f_TJ_compose at hf
  refine Fx.run [(.iload_n 1, 1, 1, 0, .null)] 1 (by decide +kernel) ?_
  show Fx q_TJ_compose 4 sh 1 [some (.ref c), some (.int v1), some (.int v2)] [.int v1] hp (some (.int res)) hp
  replace hf := bnd hf
  obtain ⟨r1, hr1, hf⟩ := hf
  refine Fx.callS (rr := (some (.int r1))) (hp1 := hp) [.int v1] [] lk_8_338 (by decide +kernel) (t_TJ_isSet sh hp v1 r1 hr1) ⟨Nat.le_of_ble_eq_true rfl, Nat.le_of_ble_eq_true rfl⟩ rfl (Nat.le_of_ble_eq_true rfl) ?_
  show Fx q_TJ_compose 4 sh 4 [some (.ref c), some (.int v1), some (.int v2)] [.int r1] hp (some (.int res)) hp
  refine Fx.if_eq (18) 22 7 (by decide +kernel) (fun b2 => ?_) (fun b2 => ?_)
  · replace hf := ifp b2 hf
    refine Fx.run [(.iconst (-1), 1, 0, 0, .int (-1))] 23 (by decide +kernel) ?_
    show Fx q_TJ_compose 4 sh 23 [some (.ref c), some (.int v1), some (.int v2)] [.int (-1)] hp (some (.int res)) hp
    obtain rfl := Option.some.inj hf
    have hk : (-1) = res := hk
    subst hk
    exact Fx.iret (by decide +kernel) rfl
  · replace hf := ifn b2 hf
    refine Fx.run [(.iload_n 2, 1, 2, 0, .null)] 8 (by decide +kernel) ?_
    show Fx q_TJ_compose 4 sh 8 [some (.ref c), some (.int v1), some (.int v2)] [.int v2] hp (some (.int res)) hp
    replace hf := bnd hf
    obtain ⟨r3, hr3, hf⟩ := hf
    refine Fx.callS (rr := (some (.int r3))) (hp1 := hp) [.int v2] [] lk_8_338 (by decide +kernel) (t_TJ_isSet sh hp v2 r3 hr3) ⟨Nat.le_of_ble_eq_true rfl, Nat.le_of_ble_eq_true rfl⟩ rfl (Nat.le_of_ble_eq_true rfl) ?_
    show Fx q_TJ_compose 4 sh 11 [some (.ref c), some (.int v1), some (.int v2)] [.int r3] hp (some (.int res)) hp
    refine Fx.if_eq (11) 22 14 (by decide +kernel) (fun b4 => ?_) (fun b4 => ?_)
    · replace hf := ifp b4 hf
      refine Fx.run [(.iconst (-1), 1, 0, 0, .int (-1))] 23 (by decide +kernel) ?_
      show Fx q_TJ_compose 4 sh 23 [some (.ref c), some (.int v1), some (.int v2)] [.int (-1)] hp (some (.int res)) hp
      obtain rfl := Option.some.inj hf
      have hk : (-1) = res := hk
      subst hk
      exact Fx.iret (by decide +kernel) rfl
    · replace hf := ifn b4 hf
      refine Fx.run [(.iload_n 1, 1, 1, 0, .null), (.iload_n 2, 1, 2, 0, .null)] 16 (by decide +kernel) ?_
      show Fx q_TJ_compose 4 sh 16 [some (.ref c), some (.int v1), some (.int v2)] [.int v2, .int v1] hp (some (.int res)) hp
      replace hf := bnd hf
      obtain ⟨r5, hr5, hf⟩ := hf
      refine Fx.callS (rr := (some (.int r5))) (hp1 := hp) [.int v1, .int v2] [] lk_8_344 (by decide +kernel) (t_TJ_composed sh hp v1 v2 r5 hr5) ⟨Nat.le_of_ble_eq_true rfl, Nat.le_of_ble_eq_true rfl⟩ rfl (Nat.le_of_ble_eq_true rfl) ?_
      show Fx q_TJ_compose 4 sh 19 [some (.ref c), some (.int v1), some (.int v2)] [.int r5] hp (some (.int res)) hp
      refine Fx.goto (4) 23 (by decide +kernel) ?_
      obtain rfl := Option.some.inj hf
      have hk : r5 = res := hk
      subst hk
      exact Fx.iret (by decide +kernel) rfl
set_option maxHeartbeats 4000000 in
set_option maxRecDepth 20000 in
theorem t_TJ_isName (sh : Shp) (hp : HP) (v0 : Int32) (res : Int32) (hf : f_TJ_isName v0 = some res) : Ex 1 q_TJ_isName sh [.int v0] hp (some (.int res)) hp := by
  refine Ex.of [some (.int v0)] rfl (Nat.le_of_ble_eq_true rfl) (by decide +kernel) rfl ?_
  obtain ⟨t, hk⟩ : ∃ t, t = res := ⟨res, rfl⟩
  rw [← hk] at hf
  unfold f_TJ_isName at hf
  refine Fx.run [(.iload_n 0, 1, 0, 0, .null)] 1 (by decide +kernel) ?_
  show Fx q_TJ_isName 1 sh 1 [some (.int v0)] [.int v0] hp (some (.int res)) hp
  refine Fx.if_lt (13) 14 4 (by decide +kernel) (fun b1 => ?_) (fun b1 => ?_)
  · replace hf := ifp b1 hf
    refine Fx.run [(.iconst 0, 1, 0, 0, .int 0)] 15 (by decide +kernel) ?_
    show Fx q_TJ_isName 1 sh 15 [some (.int v0)] [.int 0] hp (some (.int res)) hp
    obtain rfl := Option.some.inj hf
    have hk : 0 = res := hk
    subst hk
    exact Fx.zret (by decide +kernel) rfl (Or.inl rfl)
  · replace hf := ifn b1 hf
    refine Fx.run [(.iload_n 0, 1, 0, 0, .null), (.bipush 6, 2, 0, 0, .int 6)] 7 (by decide +kernel) ?_
    show Fx q_TJ_isName 1 sh 7 [some (.int v0)] [.int 6, .int v0] hp (some (.int res)) hp
    refine Fx.icmp_ge (7) 14 10 (by decide +kernel) (fun b2 => ?_) (fun b2 => ?_)
    · replace hf := ifp b2 hf
      refine Fx.run [(.iconst 0, 1, 0, 0, .int 0)] 15 (by decide +kernel) ?_
      show Fx q_TJ_isName 1 sh 15 [some (.int v0)] [.int 0] hp (some (.int res)) hp
      obtain rfl := Option.some.inj hf
      have hk : 0 = res := hk
      subst hk
      exact Fx.zret (by decide +kernel) rfl (Or.inl rfl)
    · replace hf := ifn b2 hf
      refine Fx.run [(.iconst 1, 1, 0, 0, .int 1)] 11 (by decide +kernel) ?_
      show Fx q_TJ_isName 1 sh 11 [some (.int v0)] [.int 1] hp (some (.int res)) hp
      refine Fx.goto (4) 15 (by decide +kernel) ?_
      obtain rfl := Option.some.inj hf
      have hk : 1 = res := hk
      subst hk
      exact Fx.zret (by decide +kernel) rfl (Or.inr rfl)
set_option maxHeartbeats 4000000 in
set_option maxRecDepth 20000 in
theorem t_We_tell (sh : Shp) (c : Nat) (hS : S_We sh c) (hp : HP) (v1 : Int32) (v2 : Int32) (v3 : Int32) (res : HP) (hf : f_We_tell c hp v1 v2 v3 = some res) : Ex 3 q_We_tell sh [.ref c, .int v1, .int v2, .int v3] hp none res := by
  refine Ex.of [some (.ref c), some (.int v1), some (.int v2), some (.int v3)] rfl (Nat.le_of_ble_eq_true rfl) (by decide +kernel) rfl ?_
  obtain ⟨t, hk⟩ : ∃ t, t = res := ⟨res, rfl⟩
  rw [← hk] at hf
  unfold f_We_tell at hf
  refine Fx.run [(.iload_n 1, 1, 1, 0, .null)] 1 (by decide +kernel) ?_
  show Fx q_We_tell 3 sh 1 [some (.ref c), some (.int v1), some (.int v2), some (.int v3)] [.int v1] hp none res
  replace hf := bnd hf
  obtain ⟨r1, hr1, hf⟩ := hf
  refine Fx.callN (rr := (some (.int r1))) (hp1 := hp) [.int v1] [] lk_7_31 (by decide +kernel) (t_TJ_isName sh hp v1 r1 hr1) ⟨Nat.le_of_ble_eq_true rfl, Nat.le_of_ble_eq_true rfl⟩ rfl (Nat.le_of_ble_eq_true rfl) ?_
  show Fx q_We_tell 3 sh 4 [some (.ref c), some (.int v1), some (.int v2), some (.int v3)] [.int r1] hp none res
  refine Fx.if_eq (42) 46 7 (by decide +kernel) (fun b2 => ?_) (fun b2 => ?_)
  · replace hf := ifp b2 hf
    obtain rfl := Option.some.inj hf
    have hk : hp = res := hk
    subst hk
    exact Fx.vret (by decide +kernel) rfl
  · replace hf := ifn b2 hf
    refine Fx.run [(.iload_n 2, 1, 2, 0, .null)] 8 (by decide +kernel) ?_
    show Fx q_We_tell 3 sh 8 [some (.ref c), some (.int v1), some (.int v2), some (.int v3)] [.int v2] hp none res
    replace hf := bnd hf
    obtain ⟨r3, hr3, hf⟩ := hf
    refine Fx.callN (rr := (some (.int r3))) (hp1 := hp) [.int v2] [] lk_7_31 (by decide +kernel) (t_TJ_isName sh hp v2 r3 hr3) ⟨Nat.le_of_ble_eq_true rfl, Nat.le_of_ble_eq_true rfl⟩ rfl (Nat.le_of_ble_eq_true rfl) ?_
    show Fx q_We_tell 3 sh 11 [some (.ref c), some (.int v1), some (.int v2), some (.int v3)] [.int r3] hp none res
    refine Fx.if_eq (35) 46 14 (by decide +kernel) (fun b4 => ?_) (fun b4 => ?_)
    · replace hf := ifp b4 hf
      obtain rfl := Option.some.inj hf
      have hk : hp = res := hk
      subst hk
      exact Fx.vret (by decide +kernel) rfl
    · replace hf := ifn b4 hf
      replace hf := gd hf
      obtain ⟨g5, hf⟩ := hf
      refine Fx.run [(.aload_n 0, 1, 0, 0, .null), (.getfield 9, 3, 7, 0, .ref 1), (.iload_n 1, 1, 1, 0, .null), (.bipush 6, 2, 0, 0, .int 6), (.imul, 1, 0, 0, .null), (.iload_n 2, 1, 2, 0, .null), (.iadd, 1, 0, 0, .null), (.iload_n 3, 1, 3, 0, .null), (.iastore, 1, 36, 0, .null), (.aload_n 0, 1, 0, 0, .null), (.getfield 9, 3, 7, 0, .ref 1), (.iload_n 2, 1, 2, 0, .null), (.bipush 6, 2, 0, 0, .int 6), (.imul, 1, 0, 0, .null), (.iload_n 1, 1, 1, 0, .null), (.iadd, 1, 0, 0, .null), (.iload_n 3, 1, 3, 0, .null)] 37 (by decide +kernel) ?_
      show isK sh c 7 ∧ (isA sh (c + 1) 10 36 ∧ inb ((v1 * 6) + v2) 36) ∧ isK sh c 7 ∧ Fx q_We_tell 3 sh 37 [some (.ref c), some (.int v1), some (.int v2), some (.int v3)] [.int v3, .int ((v2 * 6) + v1), .ref (c + 1)] (upI hp (c + 1) (ix ((v1 * 6) + v2)) v3) none res
      refine ⟨hS.1, ⟨hS.2.1, g5⟩, hS.1, ?_⟩
      replace hf := bnd hf
      obtain ⟨r6, hr6, hf⟩ := hf
      refine Fx.callN (rr := (some (.int r6))) (hp1 := (upI hp (c + 1) (ix ((v1 * 6) + v2)) v3)) [.int v3] [.int ((v2 * 6) + v1), .ref (c + 1)] lk_7_35 (by decide +kernel) (t_TJ_turned sh (upI hp (c + 1) (ix ((v1 * 6) + v2)) v3) v3 r6 hr6) ⟨Nat.le_of_ble_eq_true rfl, Nat.le_of_ble_eq_true rfl⟩ rfl (Nat.le_of_ble_eq_true rfl) ?_
      show Fx q_We_tell 3 sh 40 [some (.ref c), some (.int v1), some (.int v2), some (.int v3)] [.int r6, .int ((v2 * 6) + v1), .ref (c + 1)] (upI hp (c + 1) (ix ((v1 * 6) + v2)) v3) none res
      replace hf := gd hf
      obtain ⟨g7, hf⟩ := hf
      refine Fx.run [(.iastore, 1, 36, 0, .null), (.aload_n 0, 1, 0, 0, .null), (.iconst 0, 1, 0, 0, .int 0), (.putfield 27, 3, 7, 2, .int 1)] 46 (by decide +kernel) ?_
      show (isA sh (c + 1) 10 36 ∧ inb ((v2 * 6) + v1) 36) ∧ isK sh c 7 ∧ ((0 : Int32) = 0 ∨ (0 : Int32) = 1) ∧ Fx q_We_tell 3 sh 46 [some (.ref c), some (.int v1), some (.int v2), some (.int v3)] [] (upI (upI (upI hp (c + 1) (ix ((v1 * 6) + v2)) v3) (c + 1) (ix ((v2 * 6) + v1)) r6) c 2 0) none res
      refine ⟨⟨hS.2.1, g7⟩, hS.1, (Or.inl rfl), ?_⟩
      obtain rfl := Option.some.inj hf
      have hk : (upI (upI (upI hp (c + 1) (ix ((v1 * 6) + v2)) v3) (c + 1) (ix ((v2 * 6) + v1)) r6) c 2 0) = res := hk
      subst hk
      exact Fx.vret (by decide +kernel) rfl
set_option maxHeartbeats 4000000 in
set_option maxRecDepth 20000 in
theorem t_TJ_net (sh : Shp) (c : Nat) (hS : S_TJ sh c) (hp : HP) (v1 : Int32) (v2 : Int32) (v3 : Int32) (res : (HP × Int32)) (hf : f_TJ_net c hp v1 v2 v3 = some res) : Ex 4 q_TJ_net sh [.ref c, .int v1, .int v2, .int v3] hp (some (.int res.2)) res.1 := by
  refine Ex.of [some (.ref c), some (.int v1), some (.int v2), some (.int v3)] rfl (Nat.le_of_ble_eq_true rfl) (by decide +kernel) rfl ?_
  obtain ⟨t, hk⟩ : ∃ t, t = res := ⟨res, rfl⟩
  rw [← hk] at hf
  unfold f_TJ_net at hf
  refine Fx.run [(.iload_n 1, 1, 1, 0, .null)] 1 (by decide +kernel) ?_
  show Fx q_TJ_net 4 sh 1 [some (.ref c), some (.int v1), some (.int v2), some (.int v3)] [.int v1] hp (some (.int res.2)) res.1
  replace hf := bnd hf
  obtain ⟨r1, hr1, hf⟩ := hf
  refine Fx.callS (rr := (some (.int r1))) (hp1 := hp) [.int v1] [] lk_8_347 (by decide +kernel) (t_TJ_isName sh hp v1 r1 hr1) ⟨Nat.le_of_ble_eq_true rfl, Nat.le_of_ble_eq_true rfl⟩ rfl (Nat.le_of_ble_eq_true rfl) ?_
  show Fx q_TJ_net 4 sh 4 [some (.ref c), some (.int v1), some (.int v2), some (.int v3)] [.int r1] hp (some (.int res.2)) res.1
  refine Fx.if_eq (22) 26 7 (by decide +kernel) (fun b2 => ?_) (fun b2 => ?_)
  · replace hf := ifp b2 hf
    refine Fx.run [(.iconst 0, 1, 0, 0, .int 0)] 27 (by decide +kernel) ?_
    show Fx q_TJ_net 4 sh 27 [some (.ref c), some (.int v1), some (.int v2), some (.int v3)] [.int 0] hp (some (.int res.2)) res.1
    obtain rfl := Option.some.inj hf
    have hk : (hp, 0) = res := hk
    subst hk
    exact Fx.zret (by decide +kernel) rfl (Or.inl rfl)
  · replace hf := ifn b2 hf
    refine Fx.run [(.iload_n 2, 1, 2, 0, .null)] 8 (by decide +kernel) ?_
    show Fx q_TJ_net 4 sh 8 [some (.ref c), some (.int v1), some (.int v2), some (.int v3)] [.int v2] hp (some (.int res.2)) res.1
    replace hf := bnd hf
    obtain ⟨r3, hr3, hf⟩ := hf
    refine Fx.callS (rr := (some (.int r3))) (hp1 := hp) [.int v2] [] lk_8_347 (by decide +kernel) (t_TJ_isName sh hp v2 r3 hr3) ⟨Nat.le_of_ble_eq_true rfl, Nat.le_of_ble_eq_true rfl⟩ rfl (Nat.le_of_ble_eq_true rfl) ?_
    show Fx q_TJ_net 4 sh 11 [some (.ref c), some (.int v1), some (.int v2), some (.int v3)] [.int r3] hp (some (.int res.2)) res.1
    refine Fx.if_eq (15) 26 14 (by decide +kernel) (fun b4 => ?_) (fun b4 => ?_)
    · replace hf := ifp b4 hf
      refine Fx.run [(.iconst 0, 1, 0, 0, .int 0)] 27 (by decide +kernel) ?_
      show Fx q_TJ_net 4 sh 27 [some (.ref c), some (.int v1), some (.int v2), some (.int v3)] [.int 0] hp (some (.int res.2)) res.1
      obtain rfl := Option.some.inj hf
      have hk : (hp, 0) = res := hk
      subst hk
      exact Fx.zret (by decide +kernel) rfl (Or.inl rfl)
    · replace hf := ifn b4 hf
      refine Fx.run [(.iload_n 1, 1, 1, 0, .null), (.iload_n 2, 1, 2, 0, .null)] 16 (by decide +kernel) ?_
      show Fx q_TJ_net 4 sh 16 [some (.ref c), some (.int v1), some (.int v2), some (.int v3)] [.int v2, .int v1] hp (some (.int res.2)) res.1
      refine Fx.icmp_eq (10) 26 19 (by decide +kernel) (fun b5 => ?_) (fun b5 => ?_)
      · replace hf := ifp b5 hf
        refine Fx.run [(.iconst 0, 1, 0, 0, .int 0)] 27 (by decide +kernel) ?_
        show Fx q_TJ_net 4 sh 27 [some (.ref c), some (.int v1), some (.int v2), some (.int v3)] [.int 0] hp (some (.int res.2)) res.1
        obtain rfl := Option.some.inj hf
        have hk : (hp, 0) = res := hk
        subst hk
        exact Fx.zret (by decide +kernel) rfl (Or.inl rfl)
      · replace hf := ifn b5 hf
        refine Fx.run [(.iload_n 3, 1, 3, 0, .null)] 20 (by decide +kernel) ?_
        show Fx q_TJ_net 4 sh 20 [some (.ref c), some (.int v1), some (.int v2), some (.int v3)] [.int v3] hp (some (.int res.2)) res.1
        replace hf := bnd hf
        obtain ⟨r6, hr6, hf⟩ := hf
        refine Fx.callS (rr := (some (.int r6))) (hp1 := hp) [.int v3] [] lk_8_338 (by decide +kernel) (t_TJ_isSet sh hp v3 r6 hr6) ⟨Nat.le_of_ble_eq_true rfl, Nat.le_of_ble_eq_true rfl⟩ rfl (Nat.le_of_ble_eq_true rfl) ?_
        show Fx q_TJ_net 4 sh 23 [some (.ref c), some (.int v1), some (.int v2), some (.int v3)] [.int r6] hp (some (.int res.2)) res.1
        refine Fx.if_ne (5) 28 26 (by decide +kernel) (fun b7 => ?_) (fun b7 => ?_)
        · replace hf := ifn b7 hf
          refine Fx.run [(.aload_n 0, 1, 0, 0, .null), (.getfield 12, 3, 8, 0, .ref 1), (.getfield 350, 3, 5, 5, .ref 28), (.iload_n 1, 1, 1, 0, .null), (.iload_n 2, 1, 2, 0, .null), (.iload_n 3, 1, 3, 0, .null)] 38 (by decide +kernel) ?_
          show isK sh c 8 ∧ isK sh (c + 1) 5 ∧ Fx q_TJ_net 4 sh 38 [some (.ref c), some (.int v1), some (.int v2), some (.int v3)] [.int v3, .int v2, .int v1, .ref ((c + 1) + 28)] hp (some (.int res.2)) res.1
          refine ⟨hS.1, hS.2.1.1, ?_⟩
          replace hf := bnd hf
          obtain ⟨h9, hr8, hf⟩ := hf
          refine Fx.callV (rr := none) (hp1 := h9) [.int v1, .int v2, .int v3] [] lk_8_354 (by decide +kernel) (t_We_tell sh ((c + 1) + 28) (hS.2.1.2.2.2.2.2.2) hp v1 v2 v3 h9 hr8) ⟨Nat.le_of_ble_eq_true rfl, Nat.le_of_ble_eq_true rfl⟩ (hS.2.1.2.2.2.2.2.2).1 (by decide) rfl (Nat.le_of_ble_eq_true rfl) ?_
          show Fx q_TJ_net 4 sh 41 [some (.ref c), some (.int v1), some (.int v2), some (.int v3)] [] h9 (some (.int res.2)) res.1
          refine Fx.run [(.iconst 1, 1, 0, 0, .int 1)] 42 (by decide +kernel) ?_
          show Fx q_TJ_net 4 sh 42 [some (.ref c), some (.int v1), some (.int v2), some (.int v3)] [.int 1] h9 (some (.int res.2)) res.1
          obtain rfl := Option.some.inj hf
          have hk : (h9, 1) = res := hk
          subst hk
          exact Fx.zret (by decide +kernel) rfl (Or.inr rfl)
        · replace hf := ifp b7 hf
          refine Fx.run [(.iconst 0, 1, 0, 0, .int 0)] 27 (by decide +kernel) ?_
          show Fx q_TJ_net 4 sh 27 [some (.ref c), some (.int v1), some (.int v2), some (.int v3)] [.int 0] hp (some (.int res.2)) res.1
          obtain rfl := Option.some.inj hf
          have hk : (hp, 0) = res := hk
          subst hk
          exact Fx.zret (by decide +kernel) rfl (Or.inl rfl)
abbrev P_We_narrow_18 (sh : Shp) (c : Nat) (hp : HP) (v1 : Int32) (v2 : Int32) (v3 : Int32) (res : (HP × Int32)) : (Int32 × Int32) → Prop := fun s => Fx q_We_narrow 4 sh 18 [some (.ref c), some (.int v1), some (.int v2), some (.int v3), some (.int s.1), some (.int s.2)] [] hp (some (.int res.2)) res.1
set_option maxHeartbeats 4000000 in
set_option maxRecDepth 20000 in
theorem t_We_narrow_l18 (sh : Shp) (c : Nat) (hS : S_We sh c) (hp : HP) (v1 : Int32) (v2 : Int32) (v3 : Int32) (res : (HP × Int32)) : ∀ (s : (Int32 × Int32)) (t : (HP × Int32)), f_We_narrow_l18 c hp v1 v2 v3 s = some t → (fun v => v = res) t → P_We_narrow_18 sh c hp v1 v2 v3 res s := by
  refine loop_ind (P_We_narrow_18 sh c hp v1 v2 v3 res) (fun v => v = res) ?_
  intro s t hf hk
  obtain ⟨v4, v5⟩ := s
  replace hf : f_We_narrow_b18 c hp v1 v2 v3 v4 v5 = some t := hf
  show Fx q_We_narrow 4 sh 18 [some (.ref c), some (.int v1), some (.int v2), some (.int v3), some (.int v4), some (.int v5)] [] hp (some (.int res.2)) res.1
  unfold f_We_narrow_b18 at hf
  refine Fx.run [(.iload 5, 2, 5, 0, .null), (.bipush 6, 2, 0, 0, .int 6)] 22 (by decide +kernel) ?_
  show Fx q_We_narrow 4 sh 22 [some (.ref c), some (.int v1), some (.int v2), some (.int v3), some (.int v4), some (.int v5)] [.int 6, .int v5] hp (some (.int res.2)) res.1
  refine Fx.icmp_ge (53) 75 25 (by decide +kernel) (fun b2 => ?_) (fun b2 => ?_)
  · replace hf := ifp b2 hf
    replace hf := mpd hf
    obtain ⟨t, hf, rfl⟩ := hf
    replace hf := gd hf
    obtain ⟨g3, hf⟩ := hf
    refine Fx.run [(.aload_n 0, 1, 0, 0, .null), (.getfield 15, 3, 7, 1, .ref 2), (.iload_n 1, 1, 1, 0, .null), (.bipush 6, 2, 0, 0, .int 6), (.imul, 1, 0, 0, .null), (.iload_n 2, 1, 2, 0, .null), (.iadd, 1, 0, 0, .null), (.iload 4, 2, 4, 0, .null), (.iastore, 1, 36, 0, .null), (.aload_n 0, 1, 0, 0, .null), (.getfield 15, 3, 7, 1, .ref 2), (.iload_n 2, 1, 2, 0, .null), (.bipush 6, 2, 0, 0, .int 6), (.imul, 1, 0, 0, .null), (.iload_n 1, 1, 1, 0, .null), (.iadd, 1, 0, 0, .null), (.iload 4, 2, 4, 0, .null)] 100 (by decide +kernel) ?_
    show isK sh c 7 ∧ (isA sh (c + 2) 10 36 ∧ inb ((v1 * 6) + v2) 36) ∧ isK sh c 7 ∧ Fx q_We_narrow 4 sh 100 [some (.ref c), some (.int v1), some (.int v2), some (.int v3), some (.int v4), some (.int v5)] [.int v4, .int ((v2 * 6) + v1), .ref (c + 2)] (upI hp (c + 2) (ix ((v1 * 6) + v2)) v4) (some (.int res.2)) res.1
    refine ⟨hS.1, ⟨hS.2.2, g3⟩, hS.1, ?_⟩
    replace hf := bnd hf
    obtain ⟨r4, hr4, hf⟩ := hf
    refine Fx.callN (rr := (some (.int r4))) (hp1 := (upI hp (c + 2) (ix ((v1 * 6) + v2)) v4)) [.int v4] [.int ((v2 * 6) + v1), .ref (c + 2)] lk_7_35 (by decide +kernel) (t_TJ_turned sh (upI hp (c + 2) (ix ((v1 * 6) + v2)) v4) v4 r4 hr4) ⟨Nat.le_of_ble_eq_true rfl, Nat.le_of_ble_eq_true rfl⟩ rfl (Nat.le_of_ble_eq_true rfl) ?_
    show Fx q_We_narrow 4 sh 103 [some (.ref c), some (.int v1), some (.int v2), some (.int v3), some (.int v4), some (.int v5)] [.int r4, .int ((v2 * 6) + v1), .ref (c + 2)] (upI hp (c + 2) (ix ((v1 * 6) + v2)) v4) (some (.int res.2)) res.1
    replace hf := gd hf
    obtain ⟨g5, hf⟩ := hf
    refine Fx.run [(.iastore, 1, 36, 0, .null), (.iload 4, 2, 4, 0, .null), (.iload_n 3, 1, 3, 0, .null)] 107 (by decide +kernel) ?_
    show (isA sh (c + 2) 10 36 ∧ inb ((v2 * 6) + v1) 36) ∧ Fx q_We_narrow 4 sh 107 [some (.ref c), some (.int v1), some (.int v2), some (.int v3), some (.int v4), some (.int v5)] [.int v3, .int v4] (upI (upI hp (c + 2) (ix ((v1 * 6) + v2)) v4) (c + 2) (ix ((v2 * 6) + v1)) r4) (some (.int res.2)) res.1
    refine ⟨⟨hS.2.2, g5⟩, ?_⟩
    refine Fx.icmp_eq (7) 114 110 (by decide +kernel) (fun b6 => ?_) (fun b6 => ?_)
    · replace hf := ifp b6 hf
      refine Fx.run [(.iconst 0, 1, 0, 0, .int 0)] 115 (by decide +kernel) ?_
      show Fx q_We_narrow 4 sh 115 [some (.ref c), some (.int v1), some (.int v2), some (.int v3), some (.int v4), some (.int v5)] [.int 0] (upI (upI hp (c + 2) (ix ((v1 * 6) + v2)) v4) (c + 2) (ix ((v2 * 6) + v1)) r4) (some (.int res.2)) res.1
      obtain rfl := Option.some.inj hf
      have hk : ((upI (upI hp (c + 2) (ix ((v1 * 6) + v2)) v4) (c + 2) (ix ((v2 * 6) + v1)) r4), 0) = res := hk
      subst hk
      exact Fx.zret (by decide +kernel) rfl (Or.inl rfl)
    · replace hf := ifn b6 hf
      refine Fx.run [(.iconst 1, 1, 0, 0, .int 1)] 111 (by decide +kernel) ?_
      show Fx q_We_narrow 4 sh 111 [some (.ref c), some (.int v1), some (.int v2), some (.int v3), some (.int v4), some (.int v5)] [.int 1] (upI (upI hp (c + 2) (ix ((v1 * 6) + v2)) v4) (c + 2) (ix ((v2 * 6) + v1)) r4) (some (.int res.2)) res.1
      refine Fx.goto (4) 115 (by decide +kernel) ?_
      obtain rfl := Option.some.inj hf
      have hk : ((upI (upI hp (c + 2) (ix ((v1 * 6) + v2)) v4) (c + 2) (ix ((v2 * 6) + v1)) r4), 1) = res := hk
      subst hk
      exact Fx.zret (by decide +kernel) rfl (Or.inr rfl)
  · replace hf := ifn b2 hf
    refine Fx.run [(.iload 5, 2, 5, 0, .null), (.iload_n 1, 1, 1, 0, .null)] 28 (by decide +kernel) ?_
    show Fx q_We_narrow 4 sh 28 [some (.ref c), some (.int v1), some (.int v2), some (.int v3), some (.int v4), some (.int v5)] [.int v1, .int v5] hp (some (.int res.2)) res.1
    refine Fx.icmp_eq (41) 69 31 (by decide +kernel) (fun b7 => ?_) (fun b7 => ?_)
    · replace hf := ifp b7 hf
      refine Fx.run [(.iinc 5 1, 3, 5, 0, .int 1)] 72 (by decide +kernel) ?_
      show Fx q_We_narrow 4 sh 72 [some (.ref c), some (.int v1), some (.int v2), some (.int v3), some (.int v4), some (.int (v5 + 1))] [] hp (some (.int res.2)) res.1
      refine Fx.goto (-54) 18 (by decide +kernel) ?_
      obtain rfl := Option.some.inj hf
      have hk : Fx q_We_narrow 4 sh 18 [some (.ref c), some (.int v1), some (.int v2), some (.int v3), some (.int v4), some (.int (v5 + 1))] [] hp (some (.int res.2)) res.1 := hk
      exact Fx.le hk (And.intro rfl (And.intro rfl (And.intro rfl (And.intro rfl (And.intro rfl (And.intro rfl trivial))))))
    · replace hf := ifn b7 hf
      refine Fx.run [(.iload 5, 2, 5, 0, .null), (.iload_n 2, 1, 2, 0, .null)] 34 (by decide +kernel) ?_
      show Fx q_We_narrow 4 sh 34 [some (.ref c), some (.int v1), some (.int v2), some (.int v3), some (.int v4), some (.int v5)] [.int v2, .int v5] hp (some (.int res.2)) res.1
      refine Fx.icmp_eq (35) 69 37 (by decide +kernel) (fun b8 => ?_) (fun b8 => ?_)
      · replace hf := ifp b8 hf
        refine Fx.run [(.iinc 5 1, 3, 5, 0, .int 1)] 72 (by decide +kernel) ?_
        show Fx q_We_narrow 4 sh 72 [some (.ref c), some (.int v1), some (.int v2), some (.int v3), some (.int v4), some (.int (v5 + 1))] [] hp (some (.int res.2)) res.1
        refine Fx.goto (-54) 18 (by decide +kernel) ?_
        obtain rfl := Option.some.inj hf
        have hk : Fx q_We_narrow 4 sh 18 [some (.ref c), some (.int v1), some (.int v2), some (.int v3), some (.int v4), some (.int (v5 + 1))] [] hp (some (.int res.2)) res.1 := hk
        exact Fx.le hk (And.intro rfl (And.intro rfl (And.intro rfl (And.intro rfl (And.intro rfl (And.intro rfl trivial))))))
      · replace hf := ifn b8 hf
        replace hf := gd hf
        obtain ⟨g9, hf⟩ := hf
        replace hf := gd hf
        obtain ⟨g10, hf⟩ := hf
        refine Fx.run [(.iload 4, 2, 4, 0, .null), (.aload_n 0, 1, 0, 0, .null), (.getfield 15, 3, 7, 1, .ref 2), (.iload_n 1, 1, 1, 0, .null), (.bipush 6, 2, 0, 0, .int 6), (.imul, 1, 0, 0, .null), (.iload 5, 2, 5, 0, .null), (.iadd, 1, 0, 0, .null), (.iaload, 1, 36, 0, .null), (.aload_n 0, 1, 0, 0, .null), (.getfield 15, 3, 7, 1, .ref 2), (.iload 5, 2, 5, 0, .null), (.bipush 6, 2, 0, 0, .int 6), (.imul, 1, 0, 0, .null), (.iload_n 2, 1, 2, 0, .null), (.iadd, 1, 0, 0, .null), (.iaload, 1, 36, 0, .null)] 63 (by decide +kernel) ?_
        show isK sh c 7 ∧ (isA sh (c + 2) 10 36 ∧ inb ((v1 * 6) + v5) 36) ∧ isK sh c 7 ∧ (isA sh (c + 2) 10 36 ∧ inb ((v5 * 6) + v2) 36) ∧ Fx q_We_narrow 4 sh 63 [some (.ref c), some (.int v1), some (.int v2), some (.int v3), some (.int v4), some (.int v5)] [.int (hp.1 (c + 2) (ix ((v5 * 6) + v2))), .int (hp.1 (c + 2) (ix ((v1 * 6) + v5))), .int v4] hp (some (.int res.2)) res.1
        refine ⟨hS.1, ⟨hS.2.2, g9⟩, hS.1, ⟨hS.2.2, g10⟩, ?_⟩
        replace hf := bnd hf
        obtain ⟨r11, hr11, hf⟩ := hf
        refine Fx.callN (rr := (some (.int r11))) (hp1 := hp) [.int (hp.1 (c + 2) (ix ((v1 * 6) + v5))), .int (hp.1 (c + 2) (ix ((v5 * 6) + v2)))] [.int v4] lk_7_43 (by decide +kernel) (t_TJ_composed sh hp (hp.1 (c + 2) (ix ((v1 * 6) + v5))) (hp.1 (c + 2) (ix ((v5 * 6) + v2))) r11 hr11) ⟨Nat.le_of_ble_eq_true rfl, Nat.le_of_ble_eq_true rfl⟩ rfl (Nat.le_of_ble_eq_true rfl) ?_
        show Fx q_We_narrow 4 sh 66 [some (.ref c), some (.int v1), some (.int v2), some (.int v3), some (.int v4), some (.int v5)] [.int r11, .int v4] hp (some (.int res.2)) res.1
        refine Fx.run [(.iand, 1, 0, 0, .null), (.istore 4, 2, 4, 0, .null), (.iinc 5 1, 3, 5, 0, .int 1)] 72 (by decide +kernel) ?_
        show Fx q_We_narrow 4 sh 72 [some (.ref c), some (.int v1), some (.int v2), some (.int v3), some (.int (v4 &&& r11)), some (.int (v5 + 1))] [] hp (some (.int res.2)) res.1
        refine Fx.goto (-54) 18 (by decide +kernel) ?_
        obtain rfl := Option.some.inj hf
        have hk : Fx q_We_narrow 4 sh 18 [some (.ref c), some (.int v1), some (.int v2), some (.int v3), some (.int (v4 &&& r11)), some (.int (v5 + 1))] [] hp (some (.int res.2)) res.1 := hk
        exact Fx.le hk (And.intro rfl (And.intro rfl (And.intro rfl (And.intro rfl (And.intro rfl (And.intro rfl trivial))))))
set_option maxHeartbeats 4000000 in
set_option maxRecDepth 20000 in
theorem t_We_narrow (sh : Shp) (c : Nat) (hS : S_We sh c) (hp : HP) (v1 : Int32) (v2 : Int32) (res : (HP × Int32)) (hf : f_We_narrow c hp v1 v2 = some res) : Ex 4 q_We_narrow sh [.ref c, .int v1, .int v2] hp (some (.int res.2)) res.1 := by
  refine Ex.of [some (.ref c), some (.int v1), some (.int v2), none, none, none] rfl (Nat.le_of_ble_eq_true rfl) (by decide +kernel) rfl ?_
  obtain ⟨t, hk⟩ : ∃ t, t = res := ⟨res, rfl⟩
  rw [← hk] at hf
  unfold f_We_narrow at hf
  replace hf := gd hf
  obtain ⟨g1, hf⟩ := hf
  refine Fx.run [(.aload_n 0, 1, 0, 0, .null), (.getfield 15, 3, 7, 1, .ref 2), (.iload_n 1, 1, 1, 0, .null), (.bipush 6, 2, 0, 0, .int 6), (.imul, 1, 0, 0, .null), (.iload_n 2, 1, 2, 0, .null), (.iadd, 1, 0, 0, .null), (.iaload, 1, 36, 0, .null), (.istore_n 3, 1, 3, 0, .null), (.iload_n 3, 1, 3, 0, .null), (.istore 4, 2, 4, 0, .null), (.iconst 0, 1, 0, 0, .int 0), (.istore 5, 2, 5, 0, .null)] 18 (by decide +kernel) ?_
  show isK sh c 7 ∧ (isA sh (c + 2) 10 36 ∧ inb ((v1 * 6) + v2) 36) ∧ Fx q_We_narrow 4 sh 18 [some (.ref c), some (.int v1), some (.int v2), some (.int (hp.1 (c + 2) (ix ((v1 * 6) + v2)))), some (.int (hp.1 (c + 2) (ix ((v1 * 6) + v2)))), some (.int 0)] [] hp (some (.int res.2)) res.1
  refine ⟨hS.1, ⟨hS.2.2, g1⟩, ?_⟩
  have hl := t_We_narrow_l18 sh c hS hp v1 v2 (hp.1 (c + 2) (ix ((v1 * 6) + v2))) res ((hp.1 (c + 2) (ix ((v1 * 6) + v2))), 0) _ hf hk
  have hl : Fx q_We_narrow 4 sh 18 [some (.ref c), some (.int v1), some (.int v2), some (.int (hp.1 (c + 2) (ix ((v1 * 6) + v2)))), some (.int (hp.1 (c + 2) (ix ((v1 * 6) + v2)))), some (.int 0)] [] hp (some (.int res.2)) res.1 := hl
  exact Fx.le hl (And.intro rfl (And.intro rfl (And.intro rfl (And.intro rfl (And.intro rfl (And.intro rfl trivial))))))
abbrev P_We_draw_27 (sh : Shp) (c : Nat)  (res : HP) : (HP × Int32 × Int32) → Prop := fun s => Fx q_We_draw 5 sh 27 [some (.ref c), some (.int s.2.1), some (.int s.2.2), none, none] [] s.1 none res
abbrev P_We_draw_42 (sh : Shp) (c : Nat) (v2 : Int32) (res : HP) : (HP × Int32 × Int32) → Prop := fun s => Fx q_We_draw 5 sh 42 [some (.ref c), some (.int s.2.1), some (.int v2), some (.int s.2.2), none] [] s.1 none res
abbrev P_We_draw_53 (sh : Shp) (c : Nat) (v2 : Int32) (v3 : Int32) (res : HP) : (HP × Int32 × Int32) → Prop := fun s => Fx q_We_draw 5 sh 53 [some (.ref c), some (.int s.2.1), some (.int v2), some (.int v3), some (.int s.2.2)] [] s.1 none res
set_option maxHeartbeats 4000000 in
set_option maxRecDepth 20000 in
theorem t_We_draw_l53 (sh : Shp) (c : Nat) (hS : S_We sh c) (hp : HP) (v2 : Int32) (v3 : Int32) (res : HP) : ∀ (s : (HP × Int32 × Int32)) (t : ((HP × Int32 × Int32) ⊕ ((HP × Int32 × Int32) ⊕ HP))), f_We_draw_l53 c hp v2 v3 s = some t → (Kel (P_We_draw_42 sh c v2 res) (Kel (P_We_draw_27 sh c  res) (fun v => v = res))) t → P_We_draw_53 sh c v2 v3 res s := by
  refine loop_ind (P_We_draw_53 sh c v2 v3 res) (Kel (P_We_draw_42 sh c v2 res) (Kel (P_We_draw_27 sh c  res) (fun v => v = res))) ?_
  intro s t hf hk
  obtain ⟨hp, v1, v4⟩ := s
  replace hf : f_We_draw_b53 c hp v2 v3 v1 v4 = some t := hf
  show Fx q_We_draw 5 sh 53 [some (.ref c), some (.int v1), some (.int v2), some (.int v3), some (.int v4)] [] hp none res
  unfold f_We_draw_b53 at hf
  refine Fx.run [(.iload 4, 2, 4, 0, .null), (.bipush 6, 2, 0, 0, .int 6)] 57 (by decide +kernel) ?_
  show Fx q_We_draw 5 sh 57 [some (.ref c), some (.int v1), some (.int v2), some (.int v3), some (.int v4)] [.int 6, .int v4] hp none res
  refine Fx.icmp_ge (21) 78 60 (by decide +kernel) (fun b5 => ?_) (fun b5 => ?_)
  · replace hf := ifp b5 hf
    replace hf := mpd hf
    obtain ⟨t, hf, rfl⟩ := hf
    refine Fx.run [(.iinc 3 1, 3, 3, 0, .int 1)] 81 (by decide +kernel) ?_
    show Fx q_We_draw 5 sh 81 [some (.ref c), some (.int v1), some (.int v2), some (.int (v3 + 1)), some (.int v4)] [] hp none res
    refine Fx.goto (-39) 42 (by decide +kernel) ?_
    obtain rfl := Option.some.inj hf
    have hk : Fx q_We_draw 5 sh 42 [some (.ref c), some (.int v1), some (.int v2), some (.int (v3 + 1)), none] [] hp none res := hk
    exact Fx.le hk (And.intro rfl (And.intro rfl (And.intro rfl (And.intro rfl trivial))))
  · replace hf := ifn b5 hf
    refine Fx.run [(.aload_n 0, 1, 0, 0, .null), (.iload_n 3, 1, 3, 0, .null), (.iload 4, 2, 4, 0, .null)] 64 (by decide +kernel) ?_
    show Fx q_We_draw 5 sh 64 [some (.ref c), some (.int v1), some (.int v2), some (.int v3), some (.int v4)] [.int v4, .int v3, .ref c] hp none res
    replace hf := bnd hf
    obtain ⟨⟨h7, r6⟩, hr6, hf⟩ := hf
    dsimp only at hf
    refine Fx.callV (rr := (some (.int r6))) (hp1 := h7) [.int v3, .int v4] [] lk_7_39 (by decide +kernel) (t_We_narrow sh c (hS) hp v3 v4 (h7, r6) hr6) ⟨Nat.le_of_ble_eq_true rfl, Nat.le_of_ble_eq_true rfl⟩ (hS).1 (by decide) rfl (Nat.le_of_ble_eq_true rfl) ?_
    show Fx q_We_draw 5 sh 67 [some (.ref c), some (.int v1), some (.int v2), some (.int v3), some (.int v4)] [.int r6] h7 none res
    refine Fx.if_eq (5) 72 70 (by decide +kernel) (fun b8 => ?_) (fun b8 => ?_)
    · replace hf := ifp b8 hf
      refine Fx.run [(.iinc 4 1, 3, 4, 0, .int 1)] 75 (by decide +kernel) ?_
      show Fx q_We_draw 5 sh 75 [some (.ref c), some (.int v1), some (.int v2), some (.int v3), some (.int (v4 + 1))] [] h7 none res
      refine Fx.goto (-22) 53 (by decide +kernel) ?_
      obtain rfl := Option.some.inj hf
      have hk : Fx q_We_draw 5 sh 53 [some (.ref c), some (.int v1), some (.int v2), some (.int v3), some (.int (v4 + 1))] [] h7 none res := hk
      exact Fx.le hk (And.intro rfl (And.intro rfl (And.intro rfl (And.intro rfl (And.intro rfl trivial)))))
    · replace hf := ifn b8 hf
      refine Fx.run [(.iconst 1, 1, 0, 0, .int 1), (.istore_n 1, 1, 1, 0, .null), (.iinc 4 1, 3, 4, 0, .int 1)] 75 (by decide +kernel) ?_
      show Fx q_We_draw 5 sh 75 [some (.ref c), some (.int 1), some (.int v2), some (.int v3), some (.int (v4 + 1))] [] h7 none res
      refine Fx.goto (-22) 53 (by decide +kernel) ?_
      obtain rfl := Option.some.inj hf
      have hk : Fx q_We_draw 5 sh 53 [some (.ref c), some (.int 1), some (.int v2), some (.int v3), some (.int (v4 + 1))] [] h7 none res := hk
      exact Fx.le hk (And.intro rfl (And.intro rfl (And.intro rfl (And.intro rfl (And.intro rfl trivial)))))
set_option maxHeartbeats 4000000 in
set_option maxRecDepth 20000 in
theorem t_We_draw_l42 (sh : Shp) (c : Nat) (hS : S_We sh c) (hp : HP) (v2 : Int32) (res : HP) : ∀ (s : (HP × Int32 × Int32)) (t : ((HP × Int32 × Int32) ⊕ HP)), f_We_draw_l42 c hp v2 s = some t → (Kel (P_We_draw_27 sh c  res) (fun v => v = res)) t → P_We_draw_42 sh c v2 res s := by
  refine loop_ind (P_We_draw_42 sh c v2 res) (Kel (P_We_draw_27 sh c  res) (fun v => v = res)) ?_
  intro s t hf hk
  obtain ⟨hp, v1, v3⟩ := s
  replace hf : f_We_draw_b42 c hp v2 v1 v3 = some t := hf
  show Fx q_We_draw 5 sh 42 [some (.ref c), some (.int v1), some (.int v2), some (.int v3), none] [] hp none res
  unfold f_We_draw_b42 at hf
  refine Fx.run [(.iload_n 3, 1, 3, 0, .null), (.bipush 6, 2, 0, 0, .int 6)] 45 (by decide +kernel) ?_
  show Fx q_We_draw 5 sh 45 [some (.ref c), some (.int v1), some (.int v2), some (.int v3), none] [.int 6, .int v3] hp none res
  refine Fx.icmp_ge (39) 84 48 (by decide +kernel) (fun b4 => ?_) (fun b4 => ?_)
  · replace hf := ifp b4 hf
    replace hf := mpd hf
    obtain ⟨t, hf, rfl⟩ := hf
    refine Fx.run [(.iinc 2 1, 3, 2, 0, .int 1)] 87 (by decide +kernel) ?_
    show Fx q_We_draw 5 sh 87 [some (.ref c), some (.int v1), some (.int (v2 + 1)), some (.int v3), none] [] hp none res
    refine Fx.goto (-60) 27 (by decide +kernel) ?_
    obtain rfl := Option.some.inj hf
    have hk : Fx q_We_draw 5 sh 27 [some (.ref c), some (.int v1), some (.int (v2 + 1)), none, none] [] hp none res := hk
    exact Fx.le hk (And.intro rfl (And.intro rfl (And.intro rfl trivial)))
  · replace hf := ifn b4 hf
    refine Fx.run [(.iload_n 3, 1, 3, 0, .null), (.iconst 1, 1, 0, 0, .int 1), (.iadd, 1, 0, 0, .null), (.istore 4, 2, 4, 0, .null)] 53 (by decide +kernel) ?_
    show Fx q_We_draw 5 sh 53 [some (.ref c), some (.int v1), some (.int v2), some (.int v3), some (.int (v3 + 1))] [] hp none res
    have hl := t_We_draw_l53 sh c hS hp v2 v3 res (hp, v1, (v3 + 1)) _ hf hk
    have hl : Fx q_We_draw 5 sh 53 [some (.ref c), some (.int v1), some (.int v2), some (.int v3), some (.int (v3 + 1))] [] hp none res := hl
    exact Fx.le hl (And.intro rfl (And.intro rfl (And.intro rfl (And.intro rfl (And.intro rfl trivial)))))
set_option maxHeartbeats 4000000 in
set_option maxRecDepth 20000 in
theorem t_We_draw_l27 (sh : Shp) (c : Nat) (hS : S_We sh c) (hp : HP)  (res : HP) : ∀ (s : (HP × Int32 × Int32)) (t : HP), f_We_draw_l27 c hp  s = some t → (fun v => v = res) t → P_We_draw_27 sh c  res s := by
  refine loop_ind (P_We_draw_27 sh c  res) (fun v => v = res) ?_
  intro s t hf hk
  obtain ⟨hp, v1, v2⟩ := s
  replace hf : f_We_draw_b27 c hp  v1 v2 = some t := hf
  show Fx q_We_draw 5 sh 27 [some (.ref c), some (.int v1), some (.int v2), none, none] [] hp none res
  unfold f_We_draw_b27 at hf
  refine Fx.run [(.iload_n 2, 1, 2, 0, .null), (.sipush 256, 3, 0, 0, .int 256)] 31 (by decide +kernel) ?_
  show Fx q_We_draw 5 sh 31 [some (.ref c), some (.int v1), some (.int v2), none, none] [.int 256, .int v2] hp none res
  refine Fx.icmp_ge (59) 90 34 (by decide +kernel) (fun b2 => ?_) (fun b2 => ?_)
  · replace hf := ifp b2 hf
    replace hf := mpd hf
    obtain ⟨t, hf, rfl⟩ := hf
    refine Fx.run [(.aload_n 0, 1, 0, 0, .null), (.iconst 1, 1, 0, 0, .int 1), (.putfield 27, 3, 7, 2, .int 1)] 95 (by decide +kernel) ?_
    show isK sh c 7 ∧ ((1 : Int32) = 0 ∨ (1 : Int32) = 1) ∧ Fx q_We_draw 5 sh 95 [some (.ref c), some (.int v1), some (.int v2), none, none] [] (upI hp c 2 1) none res
    refine ⟨hS.1, (Or.inr rfl), ?_⟩
    obtain rfl := Option.some.inj hf
    have hk : (upI hp c 2 1) = res := hk
    subst hk
    exact Fx.vret (by decide +kernel) rfl
  · replace hf := ifn b2 hf
    refine Fx.run [(.iload_n 1, 1, 1, 0, .null)] 35 (by decide +kernel) ?_
    show Fx q_We_draw 5 sh 35 [some (.ref c), some (.int v1), some (.int v2), none, none] [.int v1] hp none res
    refine Fx.if_eq (55) 90 38 (by decide +kernel) (fun b3 => ?_) (fun b3 => ?_)
    · replace hf := ifp b3 hf
      replace hf := mpd hf
      obtain ⟨t, hf, rfl⟩ := hf
      refine Fx.run [(.aload_n 0, 1, 0, 0, .null), (.iconst 1, 1, 0, 0, .int 1), (.putfield 27, 3, 7, 2, .int 1)] 95 (by decide +kernel) ?_
      show isK sh c 7 ∧ ((1 : Int32) = 0 ∨ (1 : Int32) = 1) ∧ Fx q_We_draw 5 sh 95 [some (.ref c), some (.int v1), some (.int v2), none, none] [] (upI hp c 2 1) none res
      refine ⟨hS.1, (Or.inr rfl), ?_⟩
      obtain rfl := Option.some.inj hf
      have hk : (upI hp c 2 1) = res := hk
      subst hk
      exact Fx.vret (by decide +kernel) rfl
    · replace hf := ifn b3 hf
      refine Fx.run [(.iconst 0, 1, 0, 0, .int 0), (.istore_n 1, 1, 1, 0, .null), (.iconst 0, 1, 0, 0, .int 0), (.istore_n 3, 1, 3, 0, .null)] 42 (by decide +kernel) ?_
      show Fx q_We_draw 5 sh 42 [some (.ref c), some (.int 0), some (.int v2), some (.int 0), none] [] hp none res
      have hl := t_We_draw_l42 sh c hS hp v2 res (hp, 0, 0) _ hf hk
      have hl : Fx q_We_draw 5 sh 42 [some (.ref c), some (.int 0), some (.int v2), some (.int 0), none] [] hp none res := hl
      exact Fx.le hl (And.intro rfl (And.intro rfl (And.intro rfl (And.intro rfl trivial))))
set_option maxHeartbeats 4000000 in
set_option maxRecDepth 20000 in
theorem t_We_draw (sh : Shp) (c : Nat) (hS : S_We sh c) (hp : HP)  (res : HP) (hf : f_We_draw c hp  = some res) : Ex 5 q_We_draw sh [.ref c] hp none res := by
  refine Ex.of [some (.ref c), none, none, none, none] rfl (Nat.le_of_ble_eq_true rfl) (by decide +kernel) rfl ?_
  obtain ⟨t, hk⟩ : ∃ t, t = res := ⟨res, rfl⟩
  rw [← hk] at hf
  unfold f_We_draw at hf
  refine Fx.run [(.aload_n 0, 1, 0, 0, .null), (.getfield 27, 3, 7, 2, .null)] 4 (by decide +kernel) ?_
  show isK sh c 7 ∧ Fx q_We_draw 5 sh 4 [some (.ref c), none, none, none, none] [.int (hp.1 c 2)] hp none res
  refine ⟨hS.1, ?_⟩
  refine Fx.if_eq (4) 8 7 (by decide +kernel) (fun b1 => ?_) (fun b1 => ?_)
  · replace hf := ifp b1 hf
    refine Fx.run [(.aload_n 0, 1, 0, 0, .null), (.getfield 9, 3, 7, 0, .ref 1), (.iconst 0, 1, 0, 0, .int 0), (.aload_n 0, 1, 0, 0, .null), (.getfield 15, 3, 7, 1, .ref 2), (.iconst 0, 1, 0, 0, .int 0), (.bipush 36, 2, 0, 0, .int 36)] 20 (by decide +kernel) ?_
    show isK sh c 7 ∧ isK sh c 7 ∧ Fx q_We_draw 5 sh 20 [some (.ref c), none, none, none, none] [.int 36, .int 0, .ref (c + 2), .int 0, .ref (c + 1)] hp none res
    refine ⟨hS.1, hS.1, ?_⟩
    refine Fx.copy lk_7_21 (by decide +kernel) (by decide) (Nat.le_of_ble_eq_true rfl) (hS.2.1) (hS.2.2) (by decide : (Int32.toNatClampNeg 36) = 36) (by decide) ⟨by decide, by decide⟩ ?_
    show Fx q_We_draw 5 sh 23 [some (.ref c), none, none, none, none] [] (cpA hp (c + 1) (c + 2) 36) none res
    refine Fx.run [(.iconst 1, 1, 0, 0, .int 1), (.istore_n 1, 1, 1, 0, .null), (.iconst 0, 1, 0, 0, .int 0), (.istore_n 2, 1, 2, 0, .null)] 27 (by decide +kernel) ?_
    show Fx q_We_draw 5 sh 27 [some (.ref c), some (.int 1), some (.int 0), none, none] [] (cpA hp (c + 1) (c + 2) 36) none res
    have hl := t_We_draw_l27 sh c hS (cpA hp (c + 1) (c + 2) 36)  res ((cpA hp (c + 1) (c + 2) 36), 1, 0) _ hf hk
    have hl : Fx q_We_draw 5 sh 27 [some (.ref c), some (.int 1), some (.int 0), none, none] [] (cpA hp (c + 1) (c + 2) 36) none res := hl
    exact Fx.le hl (And.intro rfl (And.intro rfl (And.intro rfl trivial)))
  · replace hf := ifn b1 hf
    obtain rfl := Option.some.inj hf
    have hk : hp = res := hk
    subst hk
    exact Fx.vret (by decide +kernel) rfl
set_option maxHeartbeats 4000000 in
set_option maxRecDepth 20000 in
theorem t_TJ_between (sh : Shp) (c : Nat) (hS : S_TJ sh c) (hp : HP) (v1 : Int32) (v2 : Int32) (v3 : Int32) (res : (HP × Int32)) (hf : f_TJ_between c hp v1 v2 v3 = some res) : Ex 6 q_TJ_between sh [.ref c, .int v1, .int v2, .int v3] hp (some (.int res.2)) res.1 := by
  refine Ex.of [some (.ref c), some (.int v1), some (.int v2), some (.int v3)] rfl (Nat.le_of_ble_eq_true rfl) (by decide +kernel) rfl ?_
  obtain ⟨t, hk⟩ : ∃ t, t = res := ⟨res, rfl⟩
  rw [← hk] at hf
  unfold f_TJ_between at hf
  refine Fx.run [(.iload_n 1, 1, 1, 0, .null)] 1 (by decide +kernel) ?_
  show Fx q_TJ_between 6 sh 1 [some (.ref c), some (.int v1), some (.int v2), some (.int v3)] [.int v1] hp (some (.int res.2)) res.1
  replace hf := bnd hf
  obtain ⟨r1, hr1, hf⟩ := hf
  refine Fx.callS (rr := (some (.int r1))) (hp1 := hp) [.int v1] [] lk_8_347 (by decide +kernel) (t_TJ_isName sh hp v1 r1 hr1) ⟨Nat.le_of_ble_eq_true rfl, Nat.le_of_ble_eq_true rfl⟩ rfl (Nat.le_of_ble_eq_true rfl) ?_
  show Fx q_TJ_between 6 sh 4 [some (.ref c), some (.int v1), some (.int v2), some (.int v3)] [.int r1] hp (some (.int res.2)) res.1
  refine Fx.if_eq (10) 14 7 (by decide +kernel) (fun b2 => ?_) (fun b2 => ?_)
  · replace hf := ifp b2 hf
    refine Fx.run [(.iconst (-1), 1, 0, 0, .int (-1))] 15 (by decide +kernel) ?_
    show Fx q_TJ_between 6 sh 15 [some (.ref c), some (.int v1), some (.int v2), some (.int v3)] [.int (-1)] hp (some (.int res.2)) res.1
    obtain rfl := Option.some.inj hf
    have hk : (hp, (-1)) = res := hk
    subst hk
    exact Fx.iret (by decide +kernel) rfl
  · replace hf := ifn b2 hf
    refine Fx.run [(.iload_n 2, 1, 2, 0, .null)] 8 (by decide +kernel) ?_
    show Fx q_TJ_between 6 sh 8 [some (.ref c), some (.int v1), some (.int v2), some (.int v3)] [.int v2] hp (some (.int res.2)) res.1
    replace hf := bnd hf
    obtain ⟨r3, hr3, hf⟩ := hf
    refine Fx.callS (rr := (some (.int r3))) (hp1 := hp) [.int v2] [] lk_8_347 (by decide +kernel) (t_TJ_isName sh hp v2 r3 hr3) ⟨Nat.le_of_ble_eq_true rfl, Nat.le_of_ble_eq_true rfl⟩ rfl (Nat.le_of_ble_eq_true rfl) ?_
    show Fx q_TJ_between 6 sh 11 [some (.ref c), some (.int v1), some (.int v2), some (.int v3)] [.int r3] hp (some (.int res.2)) res.1
    refine Fx.if_ne (5) 16 14 (by decide +kernel) (fun b4 => ?_) (fun b4 => ?_)
    · replace hf := ifn b4 hf
      refine Fx.run [(.iload_n 3, 1, 3, 0, .null)] 17 (by decide +kernel) ?_
      show Fx q_TJ_between 6 sh 17 [some (.ref c), some (.int v1), some (.int v2), some (.int v3)] [.int v3] hp (some (.int res.2)) res.1
      refine Fx.if_ne (21) 38 20 (by decide +kernel) (fun b5 => ?_) (fun b5 => ?_)
      · replace hf := ifn b5 hf
        refine Fx.run [(.aload_n 0, 1, 0, 0, .null), (.getfield 12, 3, 8, 0, .ref 1), (.getfield 350, 3, 5, 5, .ref 28)] 45 (by decide +kernel) ?_
        show isK sh c 8 ∧ isK sh (c + 1) 5 ∧ Fx q_TJ_between 6 sh 45 [some (.ref c), some (.int v1), some (.int v2), some (.int v3)] [.ref ((c + 1) + 28)] hp (some (.int res.2)) res.1
        refine ⟨hS.1, hS.2.1.1, ?_⟩
        replace hf := bnd hf
        obtain ⟨h7, hr6, hf⟩ := hf
        refine Fx.callV (rr := none) (hp1 := h7) [] [] lk_8_362 (by decide +kernel) (t_We_draw sh ((c + 1) + 28) (hS.2.1.2.2.2.2.2.2) hp h7 hr6) ⟨Nat.le_of_ble_eq_true rfl, Nat.le_of_ble_eq_true rfl⟩ (hS.2.1.2.2.2.2.2.2).1 (by decide) rfl (Nat.le_of_ble_eq_true rfl) ?_
        show Fx q_TJ_between 6 sh 48 [some (.ref c), some (.int v1), some (.int v2), some (.int v3)] [] h7 (some (.int res.2)) res.1
        replace hf := gd hf
        obtain ⟨g8, hf⟩ := hf
        refine Fx.run [(.aload_n 0, 1, 0, 0, .null), (.getfield 12, 3, 8, 0, .ref 1), (.getfield 350, 3, 5, 5, .ref 28), (.getfield 365, 3, 7, 1, .ref 2), (.iload_n 1, 1, 1, 0, .null), (.bipush 6, 2, 0, 0, .int 6), (.imul, 1, 0, 0, .null), (.iload_n 2, 1, 2, 0, .null), (.iadd, 1, 0, 0, .null), (.iaload, 1, 36, 0, .null)] 65 (by decide +kernel) ?_
        show isK sh c 8 ∧ isK sh (c + 1) 5 ∧ isK sh ((c + 1) + 28) 7 ∧ (isA sh (((c + 1) + 28) + 2) 10 36 ∧ inb ((v1 * 6) + v2) 36) ∧ Fx q_TJ_between 6 sh 65 [some (.ref c), some (.int v1), some (.int v2), some (.int v3)] [.int (h7.1 (((c + 1) + 28) + 2) (ix ((v1 * 6) + v2)))] h7 (some (.int res.2)) res.1
        refine ⟨hS.1, hS.2.1.1, hS.2.1.2.2.2.2.2.2.1, ⟨hS.2.1.2.2.2.2.2.2.2.2, g8⟩, ?_⟩
        obtain rfl := Option.some.inj hf
        have hk : (h7, (h7.1 (((c + 1) + 28) + 2) (ix ((v1 * 6) + v2)))) = res := hk
        subst hk
        exact Fx.iret (by decide +kernel) rfl
      · replace hf := ifp b5 hf
        replace hf := gd hf
        obtain ⟨g9, hf⟩ := hf
        refine Fx.run [(.aload_n 0, 1, 0, 0, .null), (.getfield 12, 3, 8, 0, .ref 1), (.getfield 350, 3, 5, 5, .ref 28), (.getfield 360, 3, 7, 0, .ref 1), (.iload_n 1, 1, 1, 0, .null), (.bipush 6, 2, 0, 0, .int 6), (.imul, 1, 0, 0, .null), (.iload_n 2, 1, 2, 0, .null), (.iadd, 1, 0, 0, .null), (.iaload, 1, 36, 0, .null)] 37 (by decide +kernel) ?_
        show isK sh c 8 ∧ isK sh (c + 1) 5 ∧ isK sh ((c + 1) + 28) 7 ∧ (isA sh (((c + 1) + 28) + 1) 10 36 ∧ inb ((v1 * 6) + v2) 36) ∧ Fx q_TJ_between 6 sh 37 [some (.ref c), some (.int v1), some (.int v2), some (.int v3)] [.int (hp.1 (((c + 1) + 28) + 1) (ix ((v1 * 6) + v2)))] hp (some (.int res.2)) res.1
        refine ⟨hS.1, hS.2.1.1, hS.2.1.2.2.2.2.2.2.1, ⟨hS.2.1.2.2.2.2.2.2.2.1, g9⟩, ?_⟩
        obtain rfl := Option.some.inj hf
        have hk : (hp, (hp.1 (((c + 1) + 28) + 1) (ix ((v1 * 6) + v2)))) = res := hk
        subst hk
        exact Fx.iret (by decide +kernel) rfl
    · replace hf := ifp b4 hf
      refine Fx.run [(.iconst (-1), 1, 0, 0, .int (-1))] 15 (by decide +kernel) ?_
      show Fx q_TJ_between 6 sh 15 [some (.ref c), some (.int v1), some (.int v2), some (.int v3)] [.int (-1)] hp (some (.int res.2)) res.1
      obtain rfl := Option.some.inj hf
      have hk : (hp, (-1)) = res := hk
      subst hk
      exact Fx.iret (by decide +kernel) rfl
abbrev P_We_hasEmpty_2 (sh : Shp) (c : Nat) (hp : HP)  (res : Int32) : (Int32) → Prop := fun s => Fx q_We_hasEmpty 1 sh 2 [some (.ref c), some (.int s)] [] hp (some (.int res)) hp
set_option maxHeartbeats 4000000 in
set_option maxRecDepth 20000 in
theorem t_We_hasEmpty_l2 (sh : Shp) (c : Nat) (hS : S_We sh c) (hp : HP)  (res : Int32) : ∀ (s : (Int32)) (t : Int32), f_We_hasEmpty_l2 c hp  s = some t → (fun v => v = res) t → P_We_hasEmpty_2 sh c hp  res s := by
  refine loop_ind (P_We_hasEmpty_2 sh c hp  res) (fun v => v = res) ?_
  intro s t hf hk
  revert hf hk; revert s; intro v1 hf hk
  replace hf : f_We_hasEmpty_b2 c hp  v1 = some t := hf
  show Fx q_We_hasEmpty 1 sh 2 [some (.ref c), some (.int v1)] [] hp (some (.int res)) hp
  unfold f_We_hasEmpty_b2 at hf
  refine Fx.run [(.iload_n 1, 1, 1, 0, .null), (.bipush 36, 2, 0, 0, .int 36)] 5 (by decide +kernel) ?_
  show Fx q_We_hasEmpty 1 sh 5 [some (.ref c), some (.int v1)] [.int 36, .int v1] hp (some (.int res)) hp
  refine Fx.icmp_ge (20) 25 8 (by decide +kernel) (fun b1 => ?_) (fun b1 => ?_)
  · replace hf := ifp b1 hf
    replace hf := mpd hf
    obtain ⟨t, hf, rfl⟩ := hf
    refine Fx.run [(.iconst 0, 1, 0, 0, .int 0)] 26 (by decide +kernel) ?_
    show Fx q_We_hasEmpty 1 sh 26 [some (.ref c), some (.int v1)] [.int 0] hp (some (.int res)) hp
    obtain rfl := Option.some.inj hf
    have hk : 0 = res := hk
    subst hk
    exact Fx.zret (by decide +kernel) rfl (Or.inl rfl)
  · replace hf := ifn b1 hf
    replace hf := gd hf
    obtain ⟨g2, hf⟩ := hf
    refine Fx.run [(.aload_n 0, 1, 0, 0, .null), (.getfield 15, 3, 7, 1, .ref 2), (.iload_n 1, 1, 1, 0, .null), (.iaload, 1, 36, 0, .null)] 14 (by decide +kernel) ?_
    show isK sh c 7 ∧ (isA sh (c + 2) 10 36 ∧ inb v1 36) ∧ Fx q_We_hasEmpty 1 sh 14 [some (.ref c), some (.int v1)] [.int (hp.1 (c + 2) (ix v1))] hp (some (.int res)) hp
    refine ⟨hS.1, ⟨hS.2.2, g2⟩, ?_⟩
    refine Fx.if_ne (5) 19 17 (by decide +kernel) (fun b3 => ?_) (fun b3 => ?_)
    · replace hf := ifn b3 hf
      refine Fx.run [(.iinc 1 1, 3, 1, 0, .int 1)] 22 (by decide +kernel) ?_
      show Fx q_We_hasEmpty 1 sh 22 [some (.ref c), some (.int (v1 + 1))] [] hp (some (.int res)) hp
      refine Fx.goto (-20) 2 (by decide +kernel) ?_
      obtain rfl := Option.some.inj hf
      have hk : Fx q_We_hasEmpty 1 sh 2 [some (.ref c), some (.int (v1 + 1))] [] hp (some (.int res)) hp := hk
      exact Fx.le hk (And.intro rfl (And.intro rfl trivial))
    · replace hf := ifp b3 hf
      replace hf := mpd hf
      obtain ⟨t, hf, rfl⟩ := hf
      refine Fx.run [(.iconst 1, 1, 0, 0, .int 1)] 18 (by decide +kernel) ?_
      show Fx q_We_hasEmpty 1 sh 18 [some (.ref c), some (.int v1)] [.int 1] hp (some (.int res)) hp
      obtain rfl := Option.some.inj hf
      have hk : 1 = res := hk
      subst hk
      exact Fx.zret (by decide +kernel) rfl (Or.inr rfl)
set_option maxHeartbeats 4000000 in
set_option maxRecDepth 20000 in
theorem t_We_hasEmpty (sh : Shp) (c : Nat) (hS : S_We sh c) (hp : HP)  (res : Int32) (hf : f_We_hasEmpty c hp  = some res) : Ex 1 q_We_hasEmpty sh [.ref c] hp (some (.int res)) hp := by
  refine Ex.of [some (.ref c), none] rfl (Nat.le_of_ble_eq_true rfl) (by decide +kernel) rfl ?_
  obtain ⟨t, hk⟩ : ∃ t, t = res := ⟨res, rfl⟩
  rw [← hk] at hf
  unfold f_We_hasEmpty at hf
  refine Fx.run [(.iconst 0, 1, 0, 0, .int 0), (.istore_n 1, 1, 1, 0, .null)] 2 (by decide +kernel) ?_
  show Fx q_We_hasEmpty 1 sh 2 [some (.ref c), some (.int 0)] [] hp (some (.int res)) hp
  have hl := t_We_hasEmpty_l2 sh c hS hp  res 0 _ hf hk
  have hl : Fx q_We_hasEmpty 1 sh 2 [some (.ref c), some (.int 0)] [] hp (some (.int res)) hp := hl
  exact Fx.le hl (And.intro rfl (And.intro rfl trivial))
set_option maxHeartbeats 4000000 in
set_option maxRecDepth 20000 in
theorem t_TJ_sound (sh : Shp) (c : Nat) (hS : S_TJ sh c) (hp : HP)  (res : (HP × Int32)) (hf : f_TJ_sound c hp  = some res) : Ex 6 q_TJ_sound sh [.ref c] hp (some (.int res.2)) res.1 := by
  refine Ex.of [some (.ref c)] rfl (Nat.le_of_ble_eq_true rfl) (by decide +kernel) rfl ?_
  obtain ⟨t, hk⟩ : ∃ t, t = res := ⟨res, rfl⟩
  rw [← hk] at hf
  unfold f_TJ_sound at hf
  refine Fx.run [(.aload_n 0, 1, 0, 0, .null), (.getfield 12, 3, 8, 0, .ref 1), (.getfield 350, 3, 5, 5, .ref 28)] 7 (by decide +kernel) ?_
  show isK sh c 8 ∧ isK sh (c + 1) 5 ∧ Fx q_TJ_sound 6 sh 7 [some (.ref c)] [.ref ((c + 1) + 28)] hp (some (.int res.2)) res.1
  refine ⟨hS.1, hS.2.1.1, ?_⟩
  replace hf := bnd hf
  obtain ⟨h2, hr1, hf⟩ := hf
  refine Fx.callV (rr := none) (hp1 := h2) [] [] lk_8_362 (by decide +kernel) (t_We_draw sh ((c + 1) + 28) (hS.2.1.2.2.2.2.2.2) hp h2 hr1) ⟨Nat.le_of_ble_eq_true rfl, Nat.le_of_ble_eq_true rfl⟩ (hS.2.1.2.2.2.2.2.2).1 (by decide) rfl (Nat.le_of_ble_eq_true rfl) ?_
  show Fx q_TJ_sound 6 sh 10 [some (.ref c)] [] h2 (some (.int res.2)) res.1
  refine Fx.run [(.aload_n 0, 1, 0, 0, .null), (.getfield 12, 3, 8, 0, .ref 1), (.getfield 350, 3, 5, 5, .ref 28)] 17 (by decide +kernel) ?_
  show isK sh c 8 ∧ isK sh (c + 1) 5 ∧ Fx q_TJ_sound 6 sh 17 [some (.ref c)] [.ref ((c + 1) + 28)] h2 (some (.int res.2)) res.1
  refine ⟨hS.1, hS.2.1.1, ?_⟩
  replace hf := bnd hf
  obtain ⟨r3, hr3, hf⟩ := hf
  refine Fx.callV (rr := (some (.int r3))) (hp1 := h2) [] [] lk_8_368 (by decide +kernel) (t_We_hasEmpty sh ((c + 1) + 28) (hS.2.1.2.2.2.2.2.2) h2 r3 hr3) ⟨Nat.le_of_ble_eq_true rfl, Nat.le_of_ble_eq_true rfl⟩ (hS.2.1.2.2.2.2.2.2).1 (by decide) rfl (Nat.le_of_ble_eq_true rfl) ?_
  show Fx q_TJ_sound 6 sh 20 [some (.ref c)] [.int r3] h2 (some (.int res.2)) res.1
  refine Fx.if_eq (7) 27 23 (by decide +kernel) (fun b4 => ?_) (fun b4 => ?_)
  · replace hf := ifp b4 hf
    refine Fx.run [(.iconst 1, 1, 0, 0, .int 1)] 28 (by decide +kernel) ?_
    show Fx q_TJ_sound 6 sh 28 [some (.ref c)] [.int 1] h2 (some (.int res.2)) res.1
    obtain rfl := Option.some.inj hf
    have hk : (h2, 1) = res := hk
    subst hk
    exact Fx.iret (by decide +kernel) rfl
  · replace hf := ifn b4 hf
    refine Fx.run [(.iconst 0, 1, 0, 0, .int 0)] 24 (by decide +kernel) ?_
    show Fx q_TJ_sound 6 sh 24 [some (.ref c)] [.int 0] h2 (some (.int res.2)) res.1
    refine Fx.goto (4) 28 (by decide +kernel) ?_
    obtain rfl := Option.some.inj hf
    have hk : (h2, 0) = res := hk
    subst hk
    exact Fx.iret (by decide +kernel) rfl
abbrev P_We_loosen_2 (sh : Shp) (c : Nat)  (res : HP) : (HP × Int32) → Prop := fun s => Fx q_We_loosen 1 sh 2 [some (.ref c), some (.int s.2), none] [] s.1 none res
abbrev P_We_loosen_10 (sh : Shp) (c : Nat) (v1 : Int32) (res : HP) : (HP × Int32) → Prop := fun s => Fx q_We_loosen 1 sh 10 [some (.ref c), some (.int v1), some (.int s.2)] [] s.1 none res
set_option maxHeartbeats 4000000 in
set_option maxRecDepth 20000 in
theorem t_We_loosen_l10 (sh : Shp) (c : Nat) (hS : S_We sh c) (hp : HP) (v1 : Int32) (res : HP) : ∀ (s : (HP × Int32)) (t : ((HP × Int32) ⊕ HP)), f_We_loosen_l10 c hp v1 s = some t → (Kel (P_We_loosen_2 sh c  res) (fun v => v = res)) t → P_We_loosen_10 sh c v1 res s := by
  refine loop_ind (P_We_loosen_10 sh c v1 res) (Kel (P_We_loosen_2 sh c  res) (fun v => v = res)) ?_
  intro s t hf hk
  obtain ⟨hp, v2⟩ := s
  replace hf : f_We_loosen_b10 c hp v1 v2 = some t := hf
  show Fx q_We_loosen 1 sh 10 [some (.ref c), some (.int v1), some (.int v2)] [] hp none res
  unfold f_We_loosen_b10 at hf
  refine Fx.run [(.iload_n 2, 1, 2, 0, .null), (.bipush 6, 2, 0, 0, .int 6)] 13 (by decide +kernel) ?_
  show Fx q_We_loosen 1 sh 13 [some (.ref c), some (.int v1), some (.int v2)] [.int 6, .int v2] hp none res
  refine Fx.icmp_ge (33) 46 16 (by decide +kernel) (fun b2 => ?_) (fun b2 => ?_)
  · replace hf := ifp b2 hf
    replace hf := mpd hf
    obtain ⟨t, hf, rfl⟩ := hf
    refine Fx.run [(.iinc 1 1, 3, 1, 0, .int 1)] 49 (by decide +kernel) ?_
    show Fx q_We_loosen 1 sh 49 [some (.ref c), some (.int (v1 + 1)), some (.int v2)] [] hp none res
    refine Fx.goto (-47) 2 (by decide +kernel) ?_
    obtain rfl := Option.some.inj hf
    have hk : Fx q_We_loosen 1 sh 2 [some (.ref c), some (.int (v1 + 1)), none] [] hp none res := hk
    exact Fx.le hk (And.intro rfl (And.intro rfl trivial))
  · replace hf := ifn b2 hf
    refine Fx.run [(.aload_n 0, 1, 0, 0, .null), (.getfield 9, 3, 7, 0, .ref 1), (.iload_n 1, 1, 1, 0, .null), (.bipush 6, 2, 0, 0, .int 6), (.imul, 1, 0, 0, .null), (.iload_n 2, 1, 2, 0, .null), (.iadd, 1, 0, 0, .null), (.iload_n 1, 1, 1, 0, .null), (.iload_n 2, 1, 2, 0, .null)] 28 (by decide +kernel) ?_
    show isK sh c 7 ∧ Fx q_We_loosen 1 sh 28 [some (.ref c), some (.int v1), some (.int v2)] [.int v2, .int v1, .int ((v1 * 6) + v2), .ref (c + 1)] hp none res
    refine ⟨hS.1, ?_⟩
    refine Fx.icmp_ne (8) 36 31 (by decide +kernel) (fun b3 => ?_) (fun b3 => ?_)
    · replace hf := ifn b3 hf
      replace hf := gd hf
      obtain ⟨g4, hf⟩ := hf
      refine Fx.run [(.sipush 8191, 3, 0, 0, .int 8191), (.iastore, 1, 36, 0, .null), (.iinc 2 1, 3, 2, 0, .int 1)] 43 (by decide +kernel) ?_
      show (isA sh (c + 1) 10 36 ∧ inb ((v1 * 6) + v2) 36) ∧ Fx q_We_loosen 1 sh 43 [some (.ref c), some (.int v1), some (.int (v2 + 1))] [] (upI hp (c + 1) (ix ((v1 * 6) + v2)) 8191) none res
      refine ⟨⟨hS.2.1, g4⟩, ?_⟩
      refine Fx.goto (-33) 10 (by decide +kernel) ?_
      obtain rfl := Option.some.inj hf
      have hk : Fx q_We_loosen 1 sh 10 [some (.ref c), some (.int v1), some (.int (v2 + 1))] [] (upI hp (c + 1) (ix ((v1 * 6) + v2)) 8191) none res := hk
      exact Fx.le hk (And.intro rfl (And.intro rfl (And.intro rfl trivial)))
    · replace hf := ifp b3 hf
      refine Fx.run [(.bipush 64, 2, 0, 0, .int 64)] 33 (by decide +kernel) ?_
      show Fx q_We_loosen 1 sh 33 [some (.ref c), some (.int v1), some (.int v2)] [.int 64, .int ((v1 * 6) + v2), .ref (c + 1)] hp none res
      refine Fx.goto (6) 39 (by decide +kernel) ?_
      replace hf := gd hf
      obtain ⟨g5, hf⟩ := hf
      refine Fx.run [(.iastore, 1, 36, 0, .null), (.iinc 2 1, 3, 2, 0, .int 1)] 43 (by decide +kernel) ?_
      show (isA sh (c + 1) 10 36 ∧ inb ((v1 * 6) + v2) 36) ∧ Fx q_We_loosen 1 sh 43 [some (.ref c), some (.int v1), some (.int (v2 + 1))] [] (upI hp (c + 1) (ix ((v1 * 6) + v2)) 64) none res
      refine ⟨⟨hS.2.1, g5⟩, ?_⟩
      refine Fx.goto (-33) 10 (by decide +kernel) ?_
      obtain rfl := Option.some.inj hf
      have hk : Fx q_We_loosen 1 sh 10 [some (.ref c), some (.int v1), some (.int (v2 + 1))] [] (upI hp (c + 1) (ix ((v1 * 6) + v2)) 64) none res := hk
      exact Fx.le hk (And.intro rfl (And.intro rfl (And.intro rfl trivial)))
set_option maxHeartbeats 4000000 in
set_option maxRecDepth 20000 in
theorem t_We_loosen_l2 (sh : Shp) (c : Nat) (hS : S_We sh c) (hp : HP)  (res : HP) : ∀ (s : (HP × Int32)) (t : HP), f_We_loosen_l2 c hp  s = some t → (fun v => v = res) t → P_We_loosen_2 sh c  res s := by
  refine loop_ind (P_We_loosen_2 sh c  res) (fun v => v = res) ?_
  intro s t hf hk
  obtain ⟨hp, v1⟩ := s
  replace hf : f_We_loosen_b2 c hp  v1 = some t := hf
  show Fx q_We_loosen 1 sh 2 [some (.ref c), some (.int v1), none] [] hp none res
  unfold f_We_loosen_b2 at hf
  refine Fx.run [(.iload_n 1, 1, 1, 0, .null), (.bipush 6, 2, 0, 0, .int 6)] 5 (by decide +kernel) ?_
  show Fx q_We_loosen 1 sh 5 [some (.ref c), some (.int v1), none] [.int 6, .int v1] hp none res
  refine Fx.icmp_ge (47) 52 8 (by decide +kernel) (fun b1 => ?_) (fun b1 => ?_)
  · replace hf := ifp b1 hf
    replace hf := mpd hf
    obtain ⟨t, hf, rfl⟩ := hf
    refine Fx.run [(.aload_n 0, 1, 0, 0, .null), (.iconst 0, 1, 0, 0, .int 0), (.putfield 27, 3, 7, 2, .int 1)] 57 (by decide +kernel) ?_
    show isK sh c 7 ∧ ((0 : Int32) = 0 ∨ (0 : Int32) = 1) ∧ Fx q_We_loosen 1 sh 57 [some (.ref c), some (.int v1), none] [] (upI hp c 2 0) none res
    refine ⟨hS.1, (Or.inl rfl), ?_⟩
    obtain rfl := Option.some.inj hf
    have hk : (upI hp c 2 0) = res := hk
    subst hk
    exact Fx.vret (by decide +kernel) rfl
  · replace hf := ifn b1 hf
    refine Fx.run [(.iconst 0, 1, 0, 0, .int 0), (.istore_n 2, 1, 2, 0, .null)] 10 (by decide +kernel) ?_
    show Fx q_We_loosen 1 sh 10 [some (.ref c), some (.int v1), some (.int 0)] [] hp none res
    have hl := t_We_loosen_l10 sh c hS hp v1 res (hp, 0) _ hf hk
    have hl : Fx q_We_loosen 1 sh 10 [some (.ref c), some (.int v1), some (.int 0)] [] hp none res := hl
    exact Fx.le hl (And.intro rfl (And.intro rfl (And.intro rfl trivial)))
set_option maxHeartbeats 4000000 in
set_option maxRecDepth 20000 in
theorem t_We_loosen (sh : Shp) (c : Nat) (hS : S_We sh c) (hp : HP)  (res : HP) (hf : f_We_loosen c hp  = some res) : Ex 1 q_We_loosen sh [.ref c] hp none res := by
  refine Ex.of [some (.ref c), none, none] rfl (Nat.le_of_ble_eq_true rfl) (by decide +kernel) rfl ?_
  obtain ⟨t, hk⟩ : ∃ t, t = res := ⟨res, rfl⟩
  rw [← hk] at hf
  unfold f_We_loosen at hf
  refine Fx.run [(.iconst 0, 1, 0, 0, .int 0), (.istore_n 1, 1, 1, 0, .null)] 2 (by decide +kernel) ?_
  show Fx q_We_loosen 1 sh 2 [some (.ref c), some (.int 0), none] [] hp none res
  have hl := t_We_loosen_l2 sh c hS hp  res (hp, 0) _ hf hk
  have hl : Fx q_We_loosen 1 sh 2 [some (.ref c), some (.int 0), none] [] hp none res := hl
  exact Fx.le hl (And.intro rfl (And.intro rfl trivial))
abbrev P_TJ_lay_47 (sh : Shp) (c : Nat) (v1 : Int32) (v2 : Int32) (res : (HP × Int32)) : (HP × Int32) → Prop := fun s => Fx q_TJ_lay 4 sh 47 [some (.ref c), some (.int v1), some (.int v2), some (.int s.2), none] [] s.1 (some (.int res.2)) res.1
abbrev P_TJ_lay_57 (sh : Shp) (c : Nat) (v1 : Int32) (v2 : Int32) (v3 : Int32) (res : (HP × Int32)) : (HP × Int32) → Prop := fun s => Fx q_TJ_lay 4 sh 57 [some (.ref c), some (.int v1), some (.int v2), some (.int v3), some (.int s.2)] [] s.1 (some (.int res.2)) res.1
set_option maxHeartbeats 4000000 in
set_option maxRecDepth 20000 in
theorem t_TJ_lay_l57 (sh : Shp) (c : Nat) (hS : S_TJ sh c) (hp : HP) (v1 : Int32) (v2 : Int32) (v3 : Int32) (res : (HP × Int32)) : ∀ (s : (HP × Int32)) (t : ((HP × Int32) ⊕ (HP × Int32))), f_TJ_lay_l57 c hp v1 v2 v3 s = some t → (Kel (P_TJ_lay_47 sh c v1 v2 res) (fun v => v = res)) t → P_TJ_lay_57 sh c v1 v2 v3 res s := by
  refine loop_ind (P_TJ_lay_57 sh c v1 v2 v3 res) (Kel (P_TJ_lay_47 sh c v1 v2 res) (fun v => v = res)) ?_
  intro s t hf hk
  obtain ⟨hp, v4⟩ := s
  replace hf : f_TJ_lay_b57 c hp v1 v2 v3 v4 = some t := hf
  show Fx q_TJ_lay 4 sh 57 [some (.ref c), some (.int v1), some (.int v2), some (.int v3), some (.int v4)] [] hp (some (.int res.2)) res.1
  unfold f_TJ_lay_b57 at hf
  refine Fx.run [(.iload 4, 2, 4, 0, .null), (.iload_n 2, 1, 2, 0, .null)] 60 (by decide +kernel) ?_
  show Fx q_TJ_lay 4 sh 60 [some (.ref c), some (.int v1), some (.int v2), some (.int v3), some (.int v4)] [.int v2, .int v4] hp (some (.int res.2)) res.1
  refine Fx.icmp_ge (36) 96 63 (by decide +kernel) (fun b10 => ?_) (fun b10 => ?_)
  · replace hf := ifp b10 hf
    replace hf := mpd hf
    obtain ⟨t, hf, rfl⟩ := hf
    refine Fx.run [(.iinc 3 1, 3, 3, 0, .int 1)] 99 (by decide +kernel) ?_
    show Fx q_TJ_lay 4 sh 99 [some (.ref c), some (.int v1), some (.int v2), some (.int (v3 + 1)), some (.int v4)] [] hp (some (.int res.2)) res.1
    refine Fx.goto (-52) 47 (by decide +kernel) ?_
    obtain rfl := Option.some.inj hf
    have hk : Fx q_TJ_lay 4 sh 47 [some (.ref c), some (.int v1), some (.int v2), some (.int (v3 + 1)), none] [] hp (some (.int res.2)) res.1 := hk
    exact Fx.le hk (And.intro rfl (And.intro rfl (And.intro rfl (And.intro rfl trivial))))
  · replace hf := ifn b10 hf
    refine Fx.run [(.aload_n 0, 1, 0, 0, .null), (.getfield 12, 3, 8, 0, .ref 1), (.getfield 350, 3, 5, 5, .ref 28), (.iload_n 3, 1, 3, 0, .null), (.iload 4, 2, 4, 0, .null), (.iconst 1, 1, 0, 0, .int 1), (.aload_n 0, 1, 0, 0, .null), (.getfield 12, 3, 8, 0, .ref 1), (.iload_n 1, 1, 1, 0, .null), (.iload_n 3, 1, 3, 0, .null), (.iload_n 1, 1, 1, 0, .null), (.iload 4, 2, 4, 0, .null)] 83 (by decide +kernel) ?_
    show isK sh c 8 ∧ isK sh (c + 1) 5 ∧ isK sh c 8 ∧ Fx q_TJ_lay 4 sh 83 [some (.ref c), some (.int v1), some (.int v2), some (.int v3), some (.int v4)] [.int v4, .int v1, .int v3, .int v1, .ref (c + 1), .int 1, .int v4, .int v3, .ref ((c + 1) + 28)] hp (some (.int res.2)) res.1
    refine ⟨hS.1, hS.2.1.1, hS.1, ?_⟩
    replace hf := bnd hf
    obtain ⟨r11, hr11, hf⟩ := hf
    refine Fx.callV (rr := (some (.int r11))) (hp1 := hp) [.int v1, .int v3, .int v1, .int v4] [.int 1, .int v4, .int v3, .ref ((c + 1) + 28)] lk_8_153 (by decide +kernel) (t_St_kindOf sh (c + 1) (hS.2.1) hp v1 v3 v1 v4 r11 hr11) ⟨Nat.le_of_ble_eq_true rfl, Nat.le_of_ble_eq_true rfl⟩ (hS.2.1).1 (by decide) rfl (Nat.le_of_ble_eq_true rfl) ?_
    show Fx q_TJ_lay 4 sh 86 [some (.ref c), some (.int v1), some (.int v2), some (.int v3), some (.int v4)] [.int r11, .int 1, .int v4, .int v3, .ref ((c + 1) + 28)] hp (some (.int res.2)) res.1
    refine Fx.run [(.ishl, 1, 0, 0, .null)] 87 (by decide +kernel) ?_
    show Fx q_TJ_lay 4 sh 87 [some (.ref c), some (.int v1), some (.int v2), some (.int v3), some (.int v4)] [.int (1 <<< (r11 &&& 31)), .int v4, .int v3, .ref ((c + 1) + 28)] hp (some (.int res.2)) res.1
    replace hf := bnd hf
    obtain ⟨h13, hr12, hf⟩ := hf
    refine Fx.callV (rr := none) (hp1 := h13) [.int v3, .int v4, .int (1 <<< (r11 &&& 31))] [] lk_8_354 (by decide +kernel) (t_We_tell sh ((c + 1) + 28) (hS.2.1.2.2.2.2.2.2) hp v3 v4 (1 <<< (r11 &&& 31)) h13 hr12) ⟨Nat.le_of_ble_eq_true rfl, Nat.le_of_ble_eq_true rfl⟩ (hS.2.1.2.2.2.2.2.2).1 (by decide) rfl (Nat.le_of_ble_eq_true rfl) ?_
    show Fx q_TJ_lay 4 sh 90 [some (.ref c), some (.int v1), some (.int v2), some (.int v3), some (.int v4)] [] h13 (some (.int res.2)) res.1
    refine Fx.run [(.iinc 4 1, 3, 4, 0, .int 1)] 93 (by decide +kernel) ?_
    show Fx q_TJ_lay 4 sh 93 [some (.ref c), some (.int v1), some (.int v2), some (.int v3), some (.int (v4 + 1))] [] h13 (some (.int res.2)) res.1
    refine Fx.goto (-36) 57 (by decide +kernel) ?_
    obtain rfl := Option.some.inj hf
    have hk : Fx q_TJ_lay 4 sh 57 [some (.ref c), some (.int v1), some (.int v2), some (.int v3), some (.int (v4 + 1))] [] h13 (some (.int res.2)) res.1 := hk
    exact Fx.le hk (And.intro rfl (And.intro rfl (And.intro rfl (And.intro rfl (And.intro rfl trivial)))))
set_option maxHeartbeats 4000000 in
set_option maxRecDepth 20000 in
theorem t_TJ_lay_l47 (sh : Shp) (c : Nat) (hS : S_TJ sh c) (hp : HP) (v1 : Int32) (v2 : Int32) (res : (HP × Int32)) : ∀ (s : (HP × Int32)) (t : (HP × Int32)), f_TJ_lay_l47 c hp v1 v2 s = some t → (fun v => v = res) t → P_TJ_lay_47 sh c v1 v2 res s := by
  refine loop_ind (P_TJ_lay_47 sh c v1 v2 res) (fun v => v = res) ?_
  intro s t hf hk
  obtain ⟨hp, v3⟩ := s
  replace hf : f_TJ_lay_b47 c hp v1 v2 v3 = some t := hf
  show Fx q_TJ_lay 4 sh 47 [some (.ref c), some (.int v1), some (.int v2), some (.int v3), none] [] hp (some (.int res.2)) res.1
  unfold f_TJ_lay_b47 at hf
  refine Fx.run [(.iload_n 3, 1, 3, 0, .null), (.iload_n 2, 1, 2, 0, .null)] 49 (by decide +kernel) ?_
  show Fx q_TJ_lay 4 sh 49 [some (.ref c), some (.int v1), some (.int v2), some (.int v3), none] [.int v2, .int v3] hp (some (.int res.2)) res.1
  refine Fx.icmp_ge (53) 102 52 (by decide +kernel) (fun b9 => ?_) (fun b9 => ?_)
  · replace hf := ifp b9 hf
    replace hf := mpd hf
    obtain ⟨t, hf, rfl⟩ := hf
    refine Fx.run [(.iconst 1, 1, 0, 0, .int 1)] 103 (by decide +kernel) ?_
    show Fx q_TJ_lay 4 sh 103 [some (.ref c), some (.int v1), some (.int v2), some (.int v3), none] [.int 1] hp (some (.int res.2)) res.1
    obtain rfl := Option.some.inj hf
    have hk : (hp, 1) = res := hk
    subst hk
    exact Fx.zret (by decide +kernel) rfl (Or.inr rfl)
  · replace hf := ifn b9 hf
    refine Fx.run [(.iload_n 3, 1, 3, 0, .null), (.iconst 1, 1, 0, 0, .int 1), (.iadd, 1, 0, 0, .null), (.istore 4, 2, 4, 0, .null)] 57 (by decide +kernel) ?_
    show Fx q_TJ_lay 4 sh 57 [some (.ref c), some (.int v1), some (.int v2), some (.int v3), some (.int (v3 + 1))] [] hp (some (.int res.2)) res.1
    have hl := t_TJ_lay_l57 sh c hS hp v1 v2 v3 res (hp, (v3 + 1)) _ hf hk
    have hl : Fx q_TJ_lay 4 sh 57 [some (.ref c), some (.int v1), some (.int v2), some (.int v3), some (.int (v3 + 1))] [] hp (some (.int res.2)) res.1 := hl
    exact Fx.le hl (And.intro rfl (And.intro rfl (And.intro rfl (And.intro rfl (And.intro rfl trivial)))))
set_option maxHeartbeats 4000000 in
set_option maxRecDepth 20000 in
theorem t_TJ_lay (sh : Shp) (c : Nat) (hS : S_TJ sh c) (hp : HP) (v1 : Int32) (v2 : Int32) (res : (HP × Int32)) (hf : f_TJ_lay c hp v1 v2 = some res) : Ex 4 q_TJ_lay sh [.ref c, .int v1, .int v2] hp (some (.int res.2)) res.1 := by
  refine Ex.of [some (.ref c), some (.int v1), some (.int v2), none, none] rfl (Nat.le_of_ble_eq_true rfl) (by decide +kernel) rfl ?_
  obtain ⟨t, hk⟩ : ∃ t, t = res := ⟨res, rfl⟩
  rw [← hk] at hf
  unfold f_TJ_lay at hf
  refine Fx.run [(.iload_n 1, 1, 1, 0, .null)] 1 (by decide +kernel) ?_
  show Fx q_TJ_lay 4 sh 1 [some (.ref c), some (.int v1), some (.int v2), none, none] [.int v1] hp (some (.int res.2)) res.1
  replace hf := bnd hf
  obtain ⟨r1, hr1, hf⟩ := hf
  refine Fx.callS (rr := (some (.int r1))) (hp1 := hp) [.int v1] [] lk_8_91 (by decide +kernel) (t_TJ_isSide sh hp v1 r1 hr1) ⟨Nat.le_of_ble_eq_true rfl, Nat.le_of_ble_eq_true rfl⟩ rfl (Nat.le_of_ble_eq_true rfl) ?_
  show Fx q_TJ_lay 4 sh 4 [some (.ref c), some (.int v1), some (.int v2), none, none] [.int r1] hp (some (.int res.2)) res.1
  refine Fx.if_eq (29) 33 7 (by decide +kernel) (fun b2 => ?_) (fun b2 => ?_)
  · replace hf := ifp b2 hf
    refine Fx.run [(.iconst 0, 1, 0, 0, .int 0)] 34 (by decide +kernel) ?_
    show Fx q_TJ_lay 4 sh 34 [some (.ref c), some (.int v1), some (.int v2), none, none] [.int 0] hp (some (.int res.2)) res.1
    obtain rfl := Option.some.inj hf
    have hk : (hp, 0) = res := hk
    subst hk
    exact Fx.zret (by decide +kernel) rfl (Or.inl rfl)
  · replace hf := ifn b2 hf
    refine Fx.run [(.iload_n 2, 1, 2, 0, .null), (.iconst 2, 1, 0, 0, .int 2)] 9 (by decide +kernel) ?_
    show Fx q_TJ_lay 4 sh 9 [some (.ref c), some (.int v1), some (.int v2), none, none] [.int 2, .int v2] hp (some (.int res.2)) res.1
    refine Fx.icmp_lt (24) 33 12 (by decide +kernel) (fun b3 => ?_) (fun b3 => ?_)
    · replace hf := ifp b3 hf
      refine Fx.run [(.iconst 0, 1, 0, 0, .int 0)] 34 (by decide +kernel) ?_
      show Fx q_TJ_lay 4 sh 34 [some (.ref c), some (.int v1), some (.int v2), none, none] [.int 0] hp (some (.int res.2)) res.1
      obtain rfl := Option.some.inj hf
      have hk : (hp, 0) = res := hk
      subst hk
      exact Fx.zret (by decide +kernel) rfl (Or.inl rfl)
    · replace hf := ifn b3 hf
      refine Fx.run [(.iload_n 2, 1, 2, 0, .null), (.bipush 6, 2, 0, 0, .int 6)] 15 (by decide +kernel) ?_
      show Fx q_TJ_lay 4 sh 15 [some (.ref c), some (.int v1), some (.int v2), none, none] [.int 6, .int v2] hp (some (.int res.2)) res.1
      refine Fx.icmp_gt (18) 33 18 (by decide +kernel) (fun b4 => ?_) (fun b4 => ?_)
      · replace hf := ifp b4 hf
        refine Fx.run [(.iconst 0, 1, 0, 0, .int 0)] 34 (by decide +kernel) ?_
        show Fx q_TJ_lay 4 sh 34 [some (.ref c), some (.int v1), some (.int v2), none, none] [.int 0] hp (some (.int res.2)) res.1
        obtain rfl := Option.some.inj hf
        have hk : (hp, 0) = res := hk
        subst hk
        exact Fx.zret (by decide +kernel) rfl (Or.inl rfl)
      · replace hf := ifn b4 hf
        refine Fx.run [(.iload_n 2, 1, 2, 0, .null), (.aload_n 0, 1, 0, 0, .null), (.getfield 12, 3, 8, 0, .ref 1), (.iload_n 1, 1, 1, 0, .null)] 24 (by decide +kernel) ?_
        show isK sh c 8 ∧ Fx q_TJ_lay 4 sh 24 [some (.ref c), some (.int v1), some (.int v2), none, none] [.int v1, .ref (c + 1), .int v2] hp (some (.int res.2)) res.1
        refine ⟨hS.1, ?_⟩
        replace hf := bnd hf
        obtain ⟨r5, hr5, hf⟩ := hf
        refine Fx.callV (rr := (some (.ref r5))) (hp1 := hp) [.int v1] [.int v2] lk_8_95 (by decide +kernel) (t_St_rowsOf sh (c + 1) (hS.2.1) hp v1 r5 hr5) ⟨Nat.le_of_ble_eq_true rfl, Nat.le_of_ble_eq_true rfl⟩ (hS.2.1).1 (by decide) rfl (Nat.le_of_ble_eq_true rfl) ?_
        show Fx q_TJ_lay 4 sh 27 [some (.ref c), some (.int v1), some (.int v2), none, none] [.ref r5, .int v2] hp (some (.int res.2)) res.1
        refine Fx.run [(.getfield 88, 3, 4, 5, .null)] 30 (by decide +kernel) ?_
        show isK sh r5 4 ∧ Fx q_TJ_lay 4 sh 30 [some (.ref c), some (.int v1), some (.int v2), none, none] [.int (hp.1 r5 5), .int v2] hp (some (.int res.2)) res.1
        refine ⟨(rowsOf_S hS.2.1 hr5).1, ?_⟩
        refine Fx.icmp_le (5) 35 33 (by decide +kernel) (fun b6 => ?_) (fun b6 => ?_)
        · replace hf := ifp b6 hf
          refine Fx.run [(.aload_n 0, 1, 0, 0, .null), (.getfield 12, 3, 8, 0, .ref 1), (.getfield 350, 3, 5, 5, .ref 28)] 42 (by decide +kernel) ?_
          show isK sh c 8 ∧ isK sh (c + 1) 5 ∧ Fx q_TJ_lay 4 sh 42 [some (.ref c), some (.int v1), some (.int v2), none, none] [.ref ((c + 1) + 28)] hp (some (.int res.2)) res.1
          refine ⟨hS.1, hS.2.1.1, ?_⟩
          replace hf := bnd hf
          obtain ⟨h8, hr7, hf⟩ := hf
          refine Fx.callV (rr := none) (hp1 := h8) [] [] lk_8_372 (by decide +kernel) (t_We_loosen sh ((c + 1) + 28) (hS.2.1.2.2.2.2.2.2) hp h8 hr7) ⟨Nat.le_of_ble_eq_true rfl, Nat.le_of_ble_eq_true rfl⟩ (hS.2.1.2.2.2.2.2.2).1 (by decide) rfl (Nat.le_of_ble_eq_true rfl) ?_
          show Fx q_TJ_lay 4 sh 45 [some (.ref c), some (.int v1), some (.int v2), none, none] [] h8 (some (.int res.2)) res.1
          refine Fx.run [(.iconst 0, 1, 0, 0, .int 0), (.istore_n 3, 1, 3, 0, .null)] 47 (by decide +kernel) ?_
          show Fx q_TJ_lay 4 sh 47 [some (.ref c), some (.int v1), some (.int v2), some (.int 0), none] [] h8 (some (.int res.2)) res.1
          have hl := t_TJ_lay_l47 sh c hS h8 v1 v2 res (h8, 0) _ hf hk
          have hl : Fx q_TJ_lay 4 sh 47 [some (.ref c), some (.int v1), some (.int v2), some (.int 0), none] [] h8 (some (.int res.2)) res.1 := hl
          exact Fx.le hl (And.intro rfl (And.intro rfl (And.intro rfl (And.intro rfl trivial))))
        · replace hf := ifn b6 hf
          refine Fx.run [(.iconst 0, 1, 0, 0, .int 0)] 34 (by decide +kernel) ?_
          show Fx q_TJ_lay 4 sh 34 [some (.ref c), some (.int v1), some (.int v2), none, none] [.int 0] hp (some (.int res.2)) res.1
          obtain rfl := Option.some.inj hf
          have hk : (hp, 0) = res := hk
          subst hk
          exact Fx.zret (by decide +kernel) rfl (Or.inl rfl)
abbrev P_Ro_countRuns_4 (sh : Shp) (c : Nat) (hp : HP)  (res : Int32) : (Int32 × Int32) → Prop := fun s => Fx q_Ro_countRuns 2 sh 4 [some (.ref c), some (.int s.1), some (.int s.2)] [] hp (some (.int res)) hp
set_option maxHeartbeats 4000000 in
set_option maxRecDepth 20000 in
theorem t_Ro_countRuns_l4 (sh : Shp) (c : Nat) (hS : S_Ro sh c) (hp : HP)  (res : Int32) : ∀ (s : (Int32 × Int32)) (t : Int32), f_Ro_countRuns_l4 c hp  s = some t → (fun v => v = res) t → P_Ro_countRuns_4 sh c hp  res s := by
  refine loop_ind (P_Ro_countRuns_4 sh c hp  res) (fun v => v = res) ?_
  intro s t hf hk
  obtain ⟨v1, v2⟩ := s
  replace hf : f_Ro_countRuns_b4 c hp  v1 v2 = some t := hf
  show Fx q_Ro_countRuns 2 sh 4 [some (.ref c), some (.int v1), some (.int v2)] [] hp (some (.int res)) hp
  unfold f_Ro_countRuns_b4 at hf
  refine Fx.run [(.iload_n 2, 1, 2, 0, .null), (.iconst 4, 1, 0, 0, .int 4)] 6 (by decide +kernel) ?_
  show Fx q_Ro_countRuns 2 sh 6 [some (.ref c), some (.int v1), some (.int v2)] [.int 4, .int v2] hp (some (.int res)) hp
  refine Fx.icmp_ge (20) 26 9 (by decide +kernel) (fun b1 => ?_) (fun b1 => ?_)
  · replace hf := ifp b1 hf
    replace hf := mpd hf
    obtain ⟨t, hf, rfl⟩ := hf
    refine Fx.run [(.iload_n 1, 1, 1, 0, .null)] 27 (by decide +kernel) ?_
    show Fx q_Ro_countRuns 2 sh 27 [some (.ref c), some (.int v1), some (.int v2)] [.int v1] hp (some (.int res)) hp
    obtain rfl := Option.some.inj hf
    have hk : v1 = res := hk
    subst hk
    exact Fx.iret (by decide +kernel) rfl
  · replace hf := ifn b1 hf
    refine Fx.run [(.aload_n 0, 1, 0, 0, .null), (.iload_n 2, 1, 2, 0, .null)] 11 (by decide +kernel) ?_
    show Fx q_Ro_countRuns 2 sh 11 [some (.ref c), some (.int v1), some (.int v2)] [.int v2, .ref c] hp (some (.int res)) hp
    replace hf := bnd hf
    obtain ⟨r2, hr2, hf⟩ := hf
    refine Fx.callV (rr := (some (.int r2))) (hp1 := hp) [.int v2] [] lk_4_70 (by decide +kernel) (t_Ro_countInRun sh c (hS) hp v2 r2 hr2) ⟨Nat.le_of_ble_eq_true rfl, Nat.le_of_ble_eq_true rfl⟩ (hS).1 (by decide) rfl (Nat.le_of_ble_eq_true rfl) ?_
    show Fx q_Ro_countRuns 2 sh 14 [some (.ref c), some (.int v1), some (.int v2)] [.int r2] hp (some (.int res)) hp
    refine Fx.if_le (6) 20 17 (by decide +kernel) (fun b3 => ?_) (fun b3 => ?_)
    · replace hf := ifp b3 hf
      refine Fx.run [(.iinc 2 1, 3, 2, 0, .int 1)] 23 (by decide +kernel) ?_
      show Fx q_Ro_countRuns 2 sh 23 [some (.ref c), some (.int v1), some (.int (v2 + 1))] [] hp (some (.int res)) hp
      refine Fx.goto (-19) 4 (by decide +kernel) ?_
      obtain rfl := Option.some.inj hf
      have hk : Fx q_Ro_countRuns 2 sh 4 [some (.ref c), some (.int v1), some (.int (v2 + 1))] [] hp (some (.int res)) hp := hk
      exact Fx.le hk (And.intro rfl (And.intro rfl (And.intro rfl trivial)))
    · replace hf := ifn b3 hf
      refine Fx.run [(.iinc 1 1, 3, 1, 0, .int 1), (.iinc 2 1, 3, 2, 0, .int 1)] 23 (by decide +kernel) ?_
      show Fx q_Ro_countRuns 2 sh 23 [some (.ref c), some (.int (v1 + 1)), some (.int (v2 + 1))] [] hp (some (.int res)) hp
      refine Fx.goto (-19) 4 (by decide +kernel) ?_
      obtain rfl := Option.some.inj hf
      have hk : Fx q_Ro_countRuns 2 sh 4 [some (.ref c), some (.int (v1 + 1)), some (.int (v2 + 1))] [] hp (some (.int res)) hp := hk
      exact Fx.le hk (And.intro rfl (And.intro rfl (And.intro rfl trivial)))
set_option maxHeartbeats 4000000 in
set_option maxRecDepth 20000 in
theorem t_Ro_countRuns (sh : Shp) (c : Nat) (hS : S_Ro sh c) (hp : HP)  (res : Int32) (hf : f_Ro_countRuns c hp  = some res) : Ex 2 q_Ro_countRuns sh [.ref c] hp (some (.int res)) hp := by
  refine Ex.of [some (.ref c), none, none] rfl (Nat.le_of_ble_eq_true rfl) (by decide +kernel) rfl ?_
  obtain ⟨t, hk⟩ : ∃ t, t = res := ⟨res, rfl⟩
  rw [← hk] at hf
  unfold f_Ro_countRuns at hf
  refine Fx.run [(.iconst 0, 1, 0, 0, .int 0), (.istore_n 1, 1, 1, 0, .null), (.iconst 0, 1, 0, 0, .int 0), (.istore_n 2, 1, 2, 0, .null)] 4 (by decide +kernel) ?_
  show Fx q_Ro_countRuns 2 sh 4 [some (.ref c), some (.int 0), some (.int 0)] [] hp (some (.int res)) hp
  have hl := t_Ro_countRuns_l4 sh c hS hp  res (0, 0) _ hf hk
  have hl : Fx q_Ro_countRuns 2 sh 4 [some (.ref c), some (.int 0), some (.int 0)] [] hp (some (.int res)) hp := hl
  exact Fx.le hl (And.intro rfl (And.intro rfl (And.intro rfl trivial)))
set_option maxHeartbeats 4000000 in
set_option maxRecDepth 20000 in
theorem t_TJ_look (sh : Shp) (c : Nat) (hS : S_TJ sh c) (hp : HP) (v1 : Int32) (res : Int32) (hf : f_TJ_look c hp v1 = some res) : Ex 7 q_TJ_look sh [.ref c, .int v1] hp (some (.int res)) hp := by
  refine Ex.of [some (.ref c), some (.int v1)] rfl (Nat.le_of_ble_eq_true rfl) (by decide +kernel) rfl ?_
  obtain ⟨t, hk⟩ : ∃ t, t = res := ⟨res, rfl⟩
  rw [← hk] at hf
  unfold f_TJ_look at hf
  refine Fx.run [(.iload_n 1, 1, 1, 0, .null)] 1 (by decide +kernel) ?_
  show Fx q_TJ_look 7 sh 1 [some (.ref c), some (.int v1)] [.int v1] hp (some (.int res)) hp
  by_cases b6 : v1 = 0
  · replace hf := ifp b6 hf
    refine Fx.swX 0 56 b6 (by decide +kernel) ?_
    refine Fx.run [(.aload_n 0, 1, 0, 0, .null), (.getfield 12, 3, 8, 0, .ref 1), (.getfield 72, 3, 5, 6, .null)] 63 (by decide +kernel) ?_
    show isK sh c 8 ∧ isK sh (c + 1) 5 ∧ Fx q_TJ_look 7 sh 63 [some (.ref c), some (.int v1)] [.int (hp.1 (c + 1) 6)] hp (some (.int res)) hp
    refine ⟨hS.1, hS.2.1.1, ?_⟩
    refine Fx.if_eq (7) 70 66 (by decide +kernel) (fun b1 => ?_) (fun b1 => ?_)
    · replace hf := ifp b1 hf
      refine Fx.run [(.iconst 0, 1, 0, 0, .int 0)] 71 (by decide +kernel) ?_
      show Fx q_TJ_look 7 sh 71 [some (.ref c), some (.int v1)] [.int 0] hp (some (.int res)) hp
      obtain rfl := Option.some.inj hf
      have hk : 0 = res := hk
      subst hk
      exact Fx.iret (by decide +kernel) rfl
    · replace hf := ifn b1 hf
      refine Fx.run [(.iconst 1, 1, 0, 0, .int 1)] 67 (by decide +kernel) ?_
      show Fx q_TJ_look 7 sh 67 [some (.ref c), some (.int v1)] [.int 1] hp (some (.int res)) hp
      refine Fx.goto (4) 71 (by decide +kernel) ?_
      obtain rfl := Option.some.inj hf
      have hk : 1 = res := hk
      subst hk
      exact Fx.iret (by decide +kernel) rfl
  replace hf := ifn b6 hf
  by_cases b7 : v1 = 1
  · replace hf := ifp b7 hf
    refine Fx.swX 1 72 b7 (by decide +kernel) ?_
    refine Fx.run [(.aload_n 0, 1, 0, 0, .null), (.getfield 12, 3, 8, 0, .ref 1), (.getfield 75, 3, 5, 7, .null)] 79 (by decide +kernel) ?_
    show isK sh c 8 ∧ isK sh (c + 1) 5 ∧ Fx q_TJ_look 7 sh 79 [some (.ref c), some (.int v1)] [.int (hp.1 (c + 1) 7)] hp (some (.int res)) hp
    refine ⟨hS.1, hS.2.1.1, ?_⟩
    obtain rfl := Option.some.inj hf
    have hk : (hp.1 (c + 1) 7) = res := hk
    subst hk
    exact Fx.iret (by decide +kernel) rfl
  replace hf := ifn b7 hf
  by_cases b8 : v1 = 2
  · replace hf := ifp b8 hf
    refine Fx.swX 2 80 b8 (by decide +kernel) ?_
    refine Fx.run [(.aload_n 0, 1, 0, 0, .null), (.getfield 12, 3, 8, 0, .ref 1), (.getfield 243, 3, 5, 0, .ref 1), (.getfield 88, 3, 4, 5, .null)] 90 (by decide +kernel) ?_
    show isK sh c 8 ∧ isK sh (c + 1) 5 ∧ isK sh ((c + 1) + 1) 4 ∧ Fx q_TJ_look 7 sh 90 [some (.ref c), some (.int v1)] [.int (hp.1 ((c + 1) + 1) 5)] hp (some (.int res)) hp
    refine ⟨hS.1, hS.2.1.1, hS.2.1.2.1.1, ?_⟩
    obtain rfl := Option.some.inj hf
    have hk : (hp.1 ((c + 1) + 1) 5) = res := hk
    subst hk
    exact Fx.iret (by decide +kernel) rfl
  replace hf := ifn b8 hf
  by_cases b9 : v1 = 3
  · replace hf := ifp b9 hf
    refine Fx.swX 3 91 b9 (by decide +kernel) ?_
    refine Fx.run [(.aload_n 0, 1, 0, 0, .null), (.getfield 12, 3, 8, 0, .ref 1), (.getfield 246, 3, 5, 1, .ref 7), (.getfield 88, 3, 4, 5, .null)] 101 (by decide +kernel) ?_
    show isK sh c 8 ∧ isK sh (c + 1) 5 ∧ isK sh ((c + 1) + 7) 4 ∧ Fx q_TJ_look 7 sh 101 [some (.ref c), some (.int v1)] [.int (hp.1 ((c + 1) + 7) 5)] hp (some (.int res)) hp
    refine ⟨hS.1, hS.2.1.1, hS.2.1.2.2.1.1, ?_⟩
    obtain rfl := Option.some.inj hf
    have hk : (hp.1 ((c + 1) + 7) 5) = res := hk
    subst hk
    exact Fx.iret (by decide +kernel) rfl
  replace hf := ifn b9 hf
  by_cases b10 : v1 = 4
  · replace hf := ifp b10 hf
    refine Fx.swX 4 102 b10 (by decide +kernel) ?_
    refine Fx.run [(.aload_n 0, 1, 0, 0, .null), (.getfield 12, 3, 8, 0, .ref 1), (.getfield 78, 3, 5, 2, .ref 13), (.getfield 88, 3, 4, 5, .null)] 112 (by decide +kernel) ?_
    show isK sh c 8 ∧ isK sh (c + 1) 5 ∧ isK sh ((c + 1) + 13) 4 ∧ Fx q_TJ_look 7 sh 112 [some (.ref c), some (.int v1)] [.int (hp.1 ((c + 1) + 13) 5)] hp (some (.int res)) hp
    refine ⟨hS.1, hS.2.1.1, hS.2.1.2.2.2.1.1, ?_⟩
    obtain rfl := Option.some.inj hf
    have hk : (hp.1 ((c + 1) + 13) 5) = res := hk
    subst hk
    exact Fx.iret (by decide +kernel) rfl
  replace hf := ifn b10 hf
  by_cases b11 : v1 = 5
  · replace hf := ifp b11 hf
    refine Fx.swX 5 113 b11 (by decide +kernel) ?_
    refine Fx.run [(.aload_n 0, 1, 0, 0, .null), (.getfield 12, 3, 8, 0, .ref 1), (.getfield 58, 3, 5, 4, .ref 22), (.getfield 62, 3, 1, 3, .null)] 123 (by decide +kernel) ?_
    show isK sh c 8 ∧ isK sh (c + 1) 5 ∧ isK sh ((c + 1) + 22) 1 ∧ Fx q_TJ_look 7 sh 123 [some (.ref c), some (.int v1)] [.int (hp.1 ((c + 1) + 22) 3)] hp (some (.int res)) hp
    refine ⟨hS.1, hS.2.1.1, hS.2.1.2.2.2.2.2.1.1, ?_⟩
    refine Fx.if_eq (7) 130 126 (by decide +kernel) (fun b2 => ?_) (fun b2 => ?_)
    · replace hf := ifp b2 hf
      refine Fx.run [(.iconst 0, 1, 0, 0, .int 0)] 131 (by decide +kernel) ?_
      show Fx q_TJ_look 7 sh 131 [some (.ref c), some (.int v1)] [.int 0] hp (some (.int res)) hp
      obtain rfl := Option.some.inj hf
      have hk : 0 = res := hk
      subst hk
      exact Fx.iret (by decide +kernel) rfl
    · replace hf := ifn b2 hf
      refine Fx.run [(.iconst 1, 1, 0, 0, .int 1)] 127 (by decide +kernel) ?_
      show Fx q_TJ_look 7 sh 127 [some (.ref c), some (.int v1)] [.int 1] hp (some (.int res)) hp
      refine Fx.goto (4) 131 (by decide +kernel) ?_
      obtain rfl := Option.some.inj hf
      have hk : 1 = res := hk
      subst hk
      exact Fx.iret (by decide +kernel) rfl
  replace hf := ifn b11 hf
  by_cases b12 : v1 = 6
  · replace hf := ifp b12 hf
    refine Fx.swX 6 132 b12 (by decide +kernel) ?_
    refine Fx.run [(.aload_n 0, 1, 0, 0, .null), (.getfield 12, 3, 8, 0, .ref 1), (.getfield 58, 3, 5, 4, .ref 22), (.getfield 147, 3, 1, 8, .null)] 142 (by decide +kernel) ?_
    show isK sh c 8 ∧ isK sh (c + 1) 5 ∧ isK sh ((c + 1) + 22) 1 ∧ Fx q_TJ_look 7 sh 142 [some (.ref c), some (.int v1)] [.int (hp.1 ((c + 1) + 22) 8)] hp (some (.int res)) hp
    refine ⟨hS.1, hS.2.1.1, hS.2.1.2.2.2.2.2.1.1, ?_⟩
    obtain rfl := Option.some.inj hf
    have hk : (hp.1 ((c + 1) + 22) 8) = res := hk
    subst hk
    exact Fx.iret (by decide +kernel) rfl
  replace hf := ifn b12 hf
  by_cases b13 : v1 = 7
  · replace hf := ifp b13 hf
    refine Fx.swX 7 143 b13 (by decide +kernel) ?_
    refine Fx.run [(.aload_n 0, 1, 0, 0, .null)] 144 (by decide +kernel) ?_
    show Fx q_TJ_look 7 sh 144 [some (.ref c), some (.int v1)] [.ref c] hp (some (.int res)) hp
    replace hf := bnd hf
    obtain ⟨r3, hr3, hf⟩ := hf
    refine Fx.callV (rr := (some (.int r3))) (hp1 := hp) [] [] lk_8_381 (by decide +kernel) (t_TJ_mostPartners sh c (hS) hp r3 hr3) ⟨Nat.le_of_ble_eq_true rfl, Nat.le_of_ble_eq_true rfl⟩ (hS).1 (by decide) rfl (Nat.le_of_ble_eq_true rfl) ?_
    show Fx q_TJ_look 7 sh 147 [some (.ref c), some (.int v1)] [.int r3] hp (some (.int res)) hp
    obtain rfl := Option.some.inj hf
    have hk : r3 = res := hk
    subst hk
    exact Fx.iret (by decide +kernel) rfl
  replace hf := ifn b13 hf
  by_cases b14 : v1 = 8
  · replace hf := ifp b14 hf
    refine Fx.swX 8 148 b14 (by decide +kernel) ?_
    refine Fx.run [(.aload_n 0, 1, 0, 0, .null), (.getfield 12, 3, 8, 0, .ref 1), (.getfield 243, 3, 5, 0, .ref 1)] 155 (by decide +kernel) ?_
    show isK sh c 8 ∧ isK sh (c + 1) 5 ∧ Fx q_TJ_look 7 sh 155 [some (.ref c), some (.int v1)] [.ref ((c + 1) + 1)] hp (some (.int res)) hp
    refine ⟨hS.1, hS.2.1.1, ?_⟩
    replace hf := bnd hf
    obtain ⟨r4, hr4, hf⟩ := hf
    refine Fx.callV (rr := (some (.int r4))) (hp1 := hp) [] [] lk_8_384 (by decide +kernel) (t_Ro_countRuns sh ((c + 1) + 1) (hS.2.1.2.1) hp r4 hr4) ⟨Nat.le_of_ble_eq_true rfl, Nat.le_of_ble_eq_true rfl⟩ (hS.2.1.2.1).1 (by decide) rfl (Nat.le_of_ble_eq_true rfl) ?_
    show Fx q_TJ_look 7 sh 158 [some (.ref c), some (.int v1)] [.int r4] hp (some (.int res)) hp
    obtain rfl := Option.some.inj hf
    have hk : r4 = res := hk
    subst hk
    exact Fx.iret (by decide +kernel) rfl
  replace hf := ifn b14 hf
  by_cases b15 : v1 = 9
  · replace hf := ifp b15 hf
    refine Fx.swX 9 159 b15 (by decide +kernel) ?_
    refine Fx.run [(.aload_n 0, 1, 0, 0, .null), (.getfield 12, 3, 8, 0, .ref 1), (.getfield 246, 3, 5, 1, .ref 7)] 166 (by decide +kernel) ?_
    show isK sh c 8 ∧ isK sh (c + 1) 5 ∧ Fx q_TJ_look 7 sh 166 [some (.ref c), some (.int v1)] [.ref ((c + 1) + 7)] hp (some (.int res)) hp
    refine ⟨hS.1, hS.2.1.1, ?_⟩
    replace hf := bnd hf
    obtain ⟨r5, hr5, hf⟩ := hf
    refine Fx.callV (rr := (some (.int r5))) (hp1 := hp) [] [] lk_8_384 (by decide +kernel) (t_Ro_countRuns sh ((c + 1) + 7) (hS.2.1.2.2.1) hp r5 hr5) ⟨Nat.le_of_ble_eq_true rfl, Nat.le_of_ble_eq_true rfl⟩ (hS.2.1.2.2.1).1 (by decide) rfl (Nat.le_of_ble_eq_true rfl) ?_
    show Fx q_TJ_look 7 sh 169 [some (.ref c), some (.int v1)] [.int r5] hp (some (.int res)) hp
    obtain rfl := Option.some.inj hf
    have hk : r5 = res := hk
    subst hk
    exact Fx.iret (by decide +kernel) rfl
  replace hf := ifn b15 hf
  refine Fx.swD [0, 1, 2, 3, 4, 5, 6, 7, 8, 9] 170 (by decide +kernel) (List.forall_mem_cons.mpr ⟨b6, (List.forall_mem_cons.mpr ⟨b7, (List.forall_mem_cons.mpr ⟨b8, (List.forall_mem_cons.mpr ⟨b9, (List.forall_mem_cons.mpr ⟨b10, (List.forall_mem_cons.mpr ⟨b11, (List.forall_mem_cons.mpr ⟨b12, (List.forall_mem_cons.mpr ⟨b13, (List.forall_mem_cons.mpr ⟨b14, (List.forall_mem_cons.mpr ⟨b15, (fun _ h => absurd h List.not_mem_nil)⟩)⟩)⟩)⟩)⟩)⟩)⟩)⟩)⟩)⟩) ?_
  refine Fx.run [(.iconst (-1), 1, 0, 0, .int (-1))] 171 (by decide +kernel) ?_
  show Fx q_TJ_look 7 sh 171 [some (.ref c), some (.int v1)] [.int (-1)] hp (some (.int res)) hp
  obtain rfl := Option.some.inj hf
  have hk : (-1) = res := hk
  subst hk
  exact Fx.iret (by decide +kernel) rfl
set_option maxHeartbeats 4000000 in
set_option maxRecDepth 20000 in
theorem t_Cu_copyFrom (sh : Shp) (c : Nat) (hS : S_Cu sh c) (hp : HP) (v1 : Nat) (hv1 : S_Cu sh v1) (res : HP) (hf : f_Cu_copyFrom c hp v1 = some res) : Ex 1 q_Cu_copyFrom sh [.ref c, .ref v1] hp none res := by
  refine Ex.of [some (.ref c), some (.ref v1)] rfl (Nat.le_of_ble_eq_true rfl) (by decide +kernel) rfl ?_
  obtain ⟨t, hk⟩ : ∃ t, t = res := ⟨res, rfl⟩
  rw [← hk] at hf
  unfold f_Cu_copyFrom at hf
  refine Fx.run [(.aload_n 1, 1, 1, 0, .null), (.getfield 9, 3, 1, 0, .ref 1), (.iconst 0, 1, 0, 0, .int 0), (.aload_n 0, 1, 0, 0, .null), (.getfield 9, 3, 1, 0, .ref 1), (.iconst 0, 1, 0, 0, .int 0), (.sipush 160, 3, 0, 0, .int 160)] 13 (by decide +kernel) ?_
  show isK sh v1 1 ∧ isK sh c 1 ∧ Fx q_Cu_copyFrom 1 sh 13 [some (.ref c), some (.ref v1)] [.int 160, .int 0, .ref (c + 1), .int 0, .ref (v1 + 1)] hp none res
  refine ⟨hv1.1, hS.1, ?_⟩
  refine Fx.copy lk_1_27 (by decide +kernel) (by decide) (Nat.le_of_ble_eq_true rfl) (hv1.2.1) (hS.2.1) (by decide : (Int32.toNatClampNeg 160) = 160) (by decide) ⟨by decide, by decide⟩ ?_
  show Fx q_Cu_copyFrom 1 sh 16 [some (.ref c), some (.ref v1)] [] (cpA hp (v1 + 1) (c + 1) 160) none res
  refine Fx.run [(.aload_n 1, 1, 1, 0, .null), (.getfield 15, 3, 1, 4, .ref 2), (.iconst 0, 1, 0, 0, .int 0), (.aload_n 0, 1, 0, 0, .null), (.getfield 15, 3, 1, 4, .ref 2), (.iconst 0, 1, 0, 0, .int 0), (.bipush 80, 2, 0, 0, .int 80)] 28 (by decide +kernel) ?_
  show isK sh v1 1 ∧ isK sh c 1 ∧ Fx q_Cu_copyFrom 1 sh 28 [some (.ref c), some (.ref v1)] [.int 80, .int 0, .ref (c + 2), .int 0, .ref (v1 + 2)] (cpA hp (v1 + 1) (c + 1) 160) none res
  refine ⟨hv1.1, hS.1, ?_⟩
  refine Fx.copy lk_1_27 (by decide +kernel) (by decide) (Nat.le_of_ble_eq_true rfl) (hv1.2.2.1) (hS.2.2.1) (by decide : (Int32.toNatClampNeg 80) = 80) (by decide) ⟨by decide, by decide⟩ ?_
  show Fx q_Cu_copyFrom 1 sh 31 [some (.ref c), some (.ref v1)] [] (cpA (cpA hp (v1 + 1) (c + 1) 160) (v1 + 2) (c + 2) 80) none res
  refine Fx.run [(.aload_n 1, 1, 1, 0, .null), (.getfield 18, 3, 1, 5, .ref 3), (.iconst 0, 1, 0, 0, .int 0), (.aload_n 0, 1, 0, 0, .null), (.getfield 18, 3, 1, 5, .ref 3), (.iconst 0, 1, 0, 0, .int 0), (.iconst 2, 1, 0, 0, .int 2)] 42 (by decide +kernel) ?_
  show isK sh v1 1 ∧ isK sh c 1 ∧ Fx q_Cu_copyFrom 1 sh 42 [some (.ref c), some (.ref v1)] [.int 2, .int 0, .ref (c + 3), .int 0, .ref (v1 + 3)] (cpA (cpA hp (v1 + 1) (c + 1) 160) (v1 + 2) (c + 2) 80) none res
  refine ⟨hv1.1, hS.1, ?_⟩
  refine Fx.copy lk_1_27 (by decide +kernel) (by decide) (Nat.le_of_ble_eq_true rfl) (hv1.2.2.2.1) (hS.2.2.2.1) (by decide : (Int32.toNatClampNeg 2) = 2) (by decide) ⟨by decide, by decide⟩ ?_
  show Fx q_Cu_copyFrom 1 sh 45 [some (.ref c), some (.ref v1)] [] (cpA (cpA (cpA hp (v1 + 1) (c + 1) 160) (v1 + 2) (c + 2) 80) (v1 + 3) (c + 3) 2) none res
  refine Fx.run [(.aload_n 1, 1, 1, 0, .null), (.getfield 21, 3, 1, 6, .ref 4), (.iconst 0, 1, 0, 0, .int 0), (.aload_n 0, 1, 0, 0, .null), (.getfield 21, 3, 1, 6, .ref 4), (.iconst 0, 1, 0, 0, .int 0), (.bipush 8, 2, 0, 0, .int 8)] 57 (by decide +kernel) ?_
  show isK sh v1 1 ∧ isK sh c 1 ∧ Fx q_Cu_copyFrom 1 sh 57 [some (.ref c), some (.ref v1)] [.int 8, .int 0, .ref (c + 4), .int 0, .ref (v1 + 4)] (cpA (cpA (cpA hp (v1 + 1) (c + 1) 160) (v1 + 2) (c + 2) 80) (v1 + 3) (c + 3) 2) none res
  refine ⟨hv1.1, hS.1, ?_⟩
  refine Fx.copy lk_1_27 (by decide +kernel) (by decide) (Nat.le_of_ble_eq_true rfl) (hv1.2.2.2.2.1) (hS.2.2.2.2.1) (by decide : (Int32.toNatClampNeg 8) = 8) (by decide) ⟨by decide, by decide⟩ ?_
  show Fx q_Cu_copyFrom 1 sh 60 [some (.ref c), some (.ref v1)] [] (cpA (cpA (cpA (cpA hp (v1 + 1) (c + 1) 160) (v1 + 2) (c + 2) 80) (v1 + 3) (c + 3) 2) (v1 + 4) (c + 4) 8) none res
  refine Fx.run [(.aload_n 1, 1, 1, 0, .null), (.getfield 24, 3, 1, 7, .ref 5), (.iconst 0, 1, 0, 0, .int 0), (.aload_n 0, 1, 0, 0, .null), (.getfield 24, 3, 1, 7, .ref 5), (.iconst 0, 1, 0, 0, .int 0), (.sipush 1600, 3, 0, 0, .int 1600)] 73 (by decide +kernel) ?_
  show isK sh v1 1 ∧ isK sh c 1 ∧ Fx q_Cu_copyFrom 1 sh 73 [some (.ref c), some (.ref v1)] [.int 1600, .int 0, .ref (c + 5), .int 0, .ref (v1 + 5)] (cpA (cpA (cpA (cpA hp (v1 + 1) (c + 1) 160) (v1 + 2) (c + 2) 80) (v1 + 3) (c + 3) 2) (v1 + 4) (c + 4) 8) none res
  refine ⟨hv1.1, hS.1, ?_⟩
  refine Fx.copy lk_1_27 (by decide +kernel) (by decide) (Nat.le_of_ble_eq_true rfl) (hv1.2.2.2.2.2) (hS.2.2.2.2.2) (by decide : (Int32.toNatClampNeg 1600) = 1600) (by decide) ⟨by decide, by decide⟩ ?_
  show Fx q_Cu_copyFrom 1 sh 76 [some (.ref c), some (.ref v1)] [] (cpA (cpA (cpA (cpA (cpA hp (v1 + 1) (c + 1) 160) (v1 + 2) (c + 2) 80) (v1 + 3) (c + 3) 2) (v1 + 4) (c + 4) 8) (v1 + 5) (c + 5) 1600) none res
  replace hf := gd hf
  obtain ⟨g1, hf⟩ := hf
  refine Fx.run [(.aload_n 0, 1, 0, 0, .null), (.aload_n 1, 1, 1, 0, .null), (.getfield 33, 3, 1, 1, .null), (.putfield 33, 3, 1, 1, .null), (.aload_n 0, 1, 0, 0, .null), (.aload_n 1, 1, 1, 0, .null), (.getfield 37, 3, 1, 2, .null), (.putfield 37, 3, 1, 2, .null), (.aload_n 0, 1, 0, 0, .null), (.aload_n 1, 1, 1, 0, .null), (.getfield 40, 3, 1, 3, .null), (.putfield 40, 3, 1, 3, .int 1), (.aload_n 0, 1, 0, 0, .null), (.aload_n 1, 1, 1, 0, .null), (.getfield 44, 3, 1, 8, .null), (.putfield 44, 3, 1, 8, .null), (.aload_n 0, 1, 0, 0, .null), (.aload_n 1, 1, 1, 0, .null), (.getfield 47, 3, 1, 9, .null), (.putfield 47, 3, 1, 9, .null), (.aload_n 0, 1, 0, 0, .null), (.aload_n 1, 1, 1, 0, .null), (.getfield 50, 3, 1, 10, .null), (.putfield 50, 3, 1, 10, .null), (.aload_n 0, 1, 0, 0, .null), (.aload_n 1, 1, 1, 0, .null), (.getfield 53, 3, 1, 11, .null), (.putfield 53, 3, 1, 11, .null), (.aload_n 0, 1, 0, 0, .null), (.aload_n 1, 1, 1, 0, .null), (.getfield 56, 3, 1, 12, .null), (.putfield 56, 3, 1, 12, .null)] 140 (by decide +kernel) ?_
  show isK sh v1 1 ∧ isK sh c 1 ∧ isK sh v1 1 ∧ isK sh c 1 ∧ isK sh v1 1 ∧ isK sh c 1 ∧ (((upI (upI (cpA (cpA (cpA (cpA (cpA hp (v1 + 1) (c + 1) 160) (v1 + 2) (c + 2) 80) (v1 + 3) (c + 3) 2) (v1 + 4) (c + 4) 8) (v1 + 5) (c + 5) 1600) c 1 ((cpA (cpA (cpA (cpA (cpA hp (v1 + 1) (c + 1) 160) (v1 + 2) (c + 2) 80) (v1 + 3) (c + 3) 2) (v1 + 4) (c + 4) 8) (v1 + 5) (c + 5) 1600).1 v1 1)) c 2 ((upI (cpA (cpA (cpA (cpA (cpA hp (v1 + 1) (c + 1) 160) (v1 + 2) (c + 2) 80) (v1 + 3) (c + 3) 2) (v1 + 4) (c + 4) 8) (v1 + 5) (c + 5) 1600) c 1 ((cpA (cpA (cpA (cpA (cpA hp (v1 + 1) (c + 1) 160) (v1 + 2) (c + 2) 80) (v1 + 3) (c + 3) 2) (v1 + 4) (c + 4) 8) (v1 + 5) (c + 5) 1600).1 v1 1)).1 v1 2)).1 v1 3) = 0 ∨ ((upI (upI (cpA (cpA (cpA (cpA (cpA hp (v1 + 1) (c + 1) 160) (v1 + 2) (c + 2) 80) (v1 + 3) (c + 3) 2) (v1 + 4) (c + 4) 8) (v1 + 5) (c + 5) 1600) c 1 ((cpA (cpA (cpA (cpA (cpA hp (v1 + 1) (c + 1) 160) (v1 + 2) (c + 2) 80) (v1 + 3) (c + 3) 2) (v1 + 4) (c + 4) 8) (v1 + 5) (c + 5) 1600).1 v1 1)) c 2 ((upI (cpA (cpA (cpA (cpA (cpA hp (v1 + 1) (c + 1) 160) (v1 + 2) (c + 2) 80) (v1 + 3) (c + 3) 2) (v1 + 4) (c + 4) 8) (v1 + 5) (c + 5) 1600) c 1 ((cpA (cpA (cpA (cpA (cpA hp (v1 + 1) (c + 1) 160) (v1 + 2) (c + 2) 80) (v1 + 3) (c + 3) 2) (v1 + 4) (c + 4) 8) (v1 + 5) (c + 5) 1600).1 v1 1)).1 v1 2)).1 v1 3) = 1) ∧ isK sh v1 1 ∧ isK sh c 1 ∧ isK sh v1 1 ∧ isK sh c 1 ∧ isK sh v1 1 ∧ isK sh c 1 ∧ isK sh v1 1 ∧ isK sh c 1 ∧ isK sh v1 1 ∧ isK sh c 1 ∧ Fx q_Cu_copyFrom 1 sh 140 [some (.ref c), some (.ref v1)] [] (upI (upI (upI (upI (upI (upI (upI (upI (cpA (cpA (cpA (cpA (cpA hp (v1 + 1) (c + 1) 160) (v1 + 2) (c + 2) 80) (v1 + 3) (c + 3) 2) (v1 + 4) (c + 4) 8) (v1 + 5) (c + 5) 1600) c 1 ((cpA (cpA (cpA (cpA (cpA hp (v1 + 1) (c + 1) 160) (v1 + 2) (c + 2) 80) (v1 + 3) (c + 3) 2) (v1 + 4) (c + 4) 8) (v1 + 5) (c + 5) 1600).1 v1 1)) c 2 ((upI (cpA (cpA (cpA (cpA (cpA hp (v1 + 1) (c + 1) 160) (v1 + 2) (c + 2) 80) (v1 + 3) (c + 3) 2) (v1 + 4) (c + 4) 8) (v1 + 5) (c + 5) 1600) c 1 ((cpA (cpA (cpA (cpA (cpA hp (v1 + 1) (c + 1) 160) (v1 + 2) (c + 2) 80) (v1 + 3) (c + 3) 2) (v1 + 4) (c + 4) 8) (v1 + 5) (c + 5) 1600).1 v1 1)).1 v1 2)) c 3 ((upI (upI (cpA (cpA (cpA (cpA (cpA hp (v1 + 1) (c + 1) 160) (v1 + 2) (c + 2) 80) (v1 + 3) (c + 3) 2) (v1 + 4) (c + 4) 8) (v1 + 5) (c + 5) 1600) c 1 ((cpA (cpA (cpA (cpA (cpA hp (v1 + 1) (c + 1) 160) (v1 + 2) (c + 2) 80) (v1 + 3) (c + 3) 2) (v1 + 4) (c + 4) 8) (v1 + 5) (c + 5) 1600).1 v1 1)) c 2 ((upI (cpA (cpA (cpA (cpA (cpA hp (v1 + 1) (c + 1) 160) (v1 + 2) (c + 2) 80) (v1 + 3) (c + 3) 2) (v1 + 4) (c + 4) 8) (v1 + 5) (c + 5) 1600) c 1 ((cpA (cpA (cpA (cpA (cpA hp (v1 + 1) (c + 1) 160) (v1 + 2) (c + 2) 80) (v1 + 3) (c + 3) 2) (v1 + 4) (c + 4) 8) (v1 + 5) (c + 5) 1600).1 v1 1)).1 v1 2)).1 v1 3)) c 8 ((upI (upI (upI (cpA (cpA (cpA (cpA (cpA hp (v1 + 1) (c + 1) 160) (v1 + 2) (c + 2) 80) (v1 + 3) (c + 3) 2) (v1 + 4) (c + 4) 8) (v1 + 5) (c + 5) 1600) c 1 ((cpA (cpA (cpA (cpA (cpA hp (v1 + 1) (c + 1) 160) (v1 + 2) (c + 2) 80) (v1 + 3) (c + 3) 2) (v1 + 4) (c + 4) 8) (v1 + 5) (c + 5) 1600).1 v1 1)) c 2 ((upI (cpA (cpA (cpA (cpA (cpA hp (v1 + 1) (c + 1) 160) (v1 + 2) (c + 2) 80) (v1 + 3) (c + 3) 2) (v1 + 4) (c + 4) 8) (v1 + 5) (c + 5) 1600) c 1 ((cpA (cpA (cpA (cpA (cpA hp (v1 + 1) (c + 1) 160) (v1 + 2) (c + 2) 80) (v1 + 3) (c + 3) 2) (v1 + 4) (c + 4) 8) (v1 + 5) (c + 5) 1600).1 v1 1)).1 v1 2)) c 3 ((upI (upI (cpA (cpA (cpA (cpA (cpA hp (v1 + 1) (c + 1) 160) (v1 + 2) (c + 2) 80) (v1 + 3) (c + 3) 2) (v1 + 4) (c + 4) 8) (v1 + 5) (c + 5) 1600) c 1 ((cpA (cpA (cpA (cpA (cpA hp (v1 + 1) (c + 1) 160) (v1 + 2) (c + 2) 80) (v1 + 3) (c + 3) 2) (v1 + 4) (c + 4) 8) (v1 + 5) (c + 5) 1600).1 v1 1)) c 2 ((upI (cpA (cpA (cpA (cpA (cpA hp (v1 + 1) (c + 1) 160) (v1 + 2) (c + 2) 80) (v1 + 3) (c + 3) 2) (v1 + 4) (c + 4) 8) (v1 + 5) (c + 5) 1600) c 1 ((cpA (cpA (cpA (cpA (cpA hp (v1 + 1) (c + 1) 160) (v1 + 2) (c + 2) 80) (v1 + 3) (c + 3) 2) (v1 + 4) (c + 4) 8) (v1 + 5) (c + 5) 1600).1 v1 1)).1 v1 2)).1 v1 3)).1 v1 8)) c 9 ((upI (upI (upI (upI (cpA (cpA (cpA (cpA (cpA hp (v1 + 1) (c + 1) 160) (v1 + 2) (c + 2) 80) (v1 + 3) (c + 3) 2) (v1 + 4) (c + 4) 8) (v1 + 5) (c + 5) 1600) c 1 ((cpA (cpA (cpA (cpA (cpA hp (v1 + 1) (c + 1) 160) (v1 + 2) (c + 2) 80) (v1 + 3) (c + 3) 2) (v1 + 4) (c + 4) 8) (v1 + 5) (c + 5) 1600).1 v1 1)) c 2 ((upI (cpA (cpA (cpA (cpA (cpA hp (v1 + 1) (c + 1) 160) (v1 + 2) (c + 2) 80) (v1 + 3) (c + 3) 2) (v1 + 4) (c + 4) 8) (v1 + 5) (c + 5) 1600) c 1 ((cpA (cpA (cpA (cpA (cpA hp (v1 + 1) (c + 1) 160) (v1 + 2) (c + 2) 80) (v1 + 3) (c + 3) 2) (v1 + 4) (c + 4) 8) (v1 + 5) (c + 5) 1600).1 v1 1)).1 v1 2)) c 3 ((upI (upI (cpA (cpA (cpA (cpA (cpA hp (v1 + 1) (c + 1) 160) (v1 + 2) (c + 2) 80) (v1 + 3) (c + 3) 2) (v1 + 4) (c + 4) 8) (v1 + 5) (c + 5) 1600) c 1 ((cpA (cpA (cpA (cpA (cpA hp (v1 + 1) (c + 1) 160) (v1 + 2) (c + 2) 80) (v1 + 3) (c + 3) 2) (v1 + 4) (c + 4) 8) (v1 + 5) (c + 5) 1600).1 v1 1)) c 2 ((upI (cpA (cpA (cpA (cpA (cpA hp (v1 + 1) (c + 1) 160) (v1 + 2) (c + 2) 80) (v1 + 3) (c + 3) 2) (v1 + 4) (c + 4) 8) (v1 + 5) (c + 5) 1600) c 1 ((cpA (cpA (cpA (cpA (cpA hp (v1 + 1) (c + 1) 160) (v1 + 2) (c + 2) 80) (v1 + 3) (c + 3) 2) (v1 + 4) (c + 4) 8) (v1 + 5) (c + 5) 1600).1 v1 1)).1 v1 2)).1 v1 3)) c 8 ((upI (upI (upI (cpA (cpA (cpA (cpA (cpA hp (v1 + 1) (c + 1) 160) (v1 + 2) (c + 2) 80) (v1 + 3) (c + 3) 2) (v1 + 4) (c + 4) 8) (v1 + 5) (c + 5) 1600) c 1 ((cpA (cpA (cpA (cpA (cpA hp (v1 + 1) (c + 1) 160) (v1 + 2) (c + 2) 80) (v1 + 3) (c + 3) 2) (v1 + 4) (c + 4) 8) (v1 + 5) (c + 5) 1600).1 v1 1)) c 2 ((upI (cpA (cpA (cpA (cpA (cpA hp (v1 + 1) (c + 1) 160) (v1 + 2) (c + 2) 80) (v1 + 3) (c + 3) 2) (v1 + 4) (c + 4) 8) (v1 + 5) (c + 5) 1600) c 1 ((cpA (cpA (cpA (cpA (cpA hp (v1 + 1) (c + 1) 160) (v1 + 2) (c + 2) 80) (v1 + 3) (c + 3) 2) (v1 + 4) (c + 4) 8) (v1 + 5) (c + 5) 1600).1 v1 1)).1 v1 2)) c 3 ((upI (upI (cpA (cpA (cpA (cpA (cpA hp (v1 + 1) (c + 1) 160) (v1 + 2) (c + 2) 80) (v1 + 3) (c + 3) 2) (v1 + 4) (c + 4) 8) (v1 + 5) (c + 5) 1600) c 1 ((cpA (cpA (cpA (cpA (cpA hp (v1 + 1) (c + 1) 160) (v1 + 2) (c + 2) 80) (v1 + 3) (c + 3) 2) (v1 + 4) (c + 4) 8) (v1 + 5) (c + 5) 1600).1 v1 1)) c 2 ((upI (cpA (cpA (cpA (cpA (cpA hp (v1 + 1) (c + 1) 160) (v1 + 2) (c + 2) 80) (v1 + 3) (c + 3) 2) (v1 + 4) (c + 4) 8) (v1 + 5) (c + 5) 1600) c 1 ((cpA (cpA (cpA (cpA (cpA hp (v1 + 1) (c + 1) 160) (v1 + 2) (c + 2) 80) (v1 + 3) (c + 3) 2) (v1 + 4) (c + 4) 8) (v1 + 5) (c + 5) 1600).1 v1 1)).1 v1 2)).1 v1 3)).1 v1 8)).1 v1 9)) c 10 ((upI (upI (upI (upI (upI (cpA (cpA (cpA (cpA (cpA hp (v1 + 1) (c + 1) 160) (v1 + 2) (c + 2) 80) (v1 + 3) (c + 3) 2) (v1 + 4) (c + 4) 8) (v1 + 5) (c + 5) 1600) c 1 ((cpA (cpA (cpA (cpA (cpA hp (v1 + 1) (c + 1) 160) (v1 + 2) (c + 2) 80) (v1 + 3) (c + 3) 2) (v1 + 4) (c + 4) 8) (v1 + 5) (c + 5) 1600).1 v1 1)) c 2 ((upI (cpA (cpA (cpA (cpA (cpA hp (v1 + 1) (c + 1) 160) (v1 + 2) (c + 2) 80) (v1 + 3) (c + 3) 2) (v1 + 4) (c + 4) 8) (v1 + 5) (c + 5) 1600) c 1 ((cpA (cpA (cpA (cpA (cpA hp (v1 + 1) (c + 1) 160) (v1 + 2) (c + 2) 80) (v1 + 3) (c + 3) 2) (v1 + 4) (c + 4) 8) (v1 + 5) (c + 5) 1600).1 v1 1)).1 v1 2)) c 3 ((upI (upI (cpA (cpA (cpA (cpA (cpA hp (v1 + 1) (c + 1) 160) (v1 + 2) (c + 2) 80) (v1 + 3) (c + 3) 2) (v1 + 4) (c + 4) 8) (v1 + 5) (c + 5) 1600) c 1 ((cpA (cpA (cpA (cpA (cpA hp (v1 + 1) (c + 1) 160) (v1 + 2) (c + 2) 80) (v1 + 3) (c + 3) 2) (v1 + 4) (c + 4) 8) (v1 + 5) (c + 5) 1600).1 v1 1)) c 2 ((upI (cpA (cpA (cpA (cpA (cpA hp (v1 + 1) (c + 1) 160) (v1 + 2) (c + 2) 80) (v1 + 3) (c + 3) 2) (v1 + 4) (c + 4) 8) (v1 + 5) (c + 5) 1600) c 1 ((cpA (cpA (cpA (cpA (cpA hp (v1 + 1) (c + 1) 160) (v1 + 2) (c + 2) 80) (v1 + 3) (c + 3) 2) (v1 + 4) (c + 4) 8) (v1 + 5) (c + 5) 1600).1 v1 1)).1 v1 2)).1 v1 3)) c 8 ((upI (upI (upI (cpA (cpA (cpA (cpA (cpA hp (v1 + 1) (c + 1) 160) (v1 + 2) (c + 2) 80) (v1 + 3) (c + 3) 2) (v1 + 4) (c + 4) 8) (v1 + 5) (c + 5) 1600) c 1 ((cpA (cpA (cpA (cpA (cpA hp (v1 + 1) (c + 1) 160) (v1 + 2) (c + 2) 80) (v1 + 3) (c + 3) 2) (v1 + 4) (c + 4) 8) (v1 + 5) (c + 5) 1600).1 v1 1)) c 2 ((upI (cpA (cpA (cpA (cpA (cpA hp (v1 + 1) (c + 1) 160) (v1 + 2) (c + 2) 80) (v1 + 3) (c + 3) 2) (v1 + 4) (c + 4) 8) (v1 + 5) (c + 5) 1600) c 1 ((cpA (cpA (cpA (cpA (cpA hp (v1 + 1) (c + 1) 160) (v1 + 2) (c + 2) 80) (v1 + 3) (c + 3) 2) (v1 + 4) (c + 4) 8) (v1 + 5) (c + 5) 1600).1 v1 1)).1 v1 2)) c 3 ((upI (upI (cpA (cpA (cpA (cpA (cpA hp (v1 + 1) (c + 1) 160) (v1 + 2) (c + 2) 80) (v1 + 3) (c + 3) 2) (v1 + 4) (c + 4) 8) (v1 + 5) (c + 5) 1600) c 1 ((cpA (cpA (cpA (cpA (cpA hp (v1 + 1) (c + 1) 160) (v1 + 2) (c + 2) 80) (v1 + 3) (c + 3) 2) (v1 + 4) (c + 4) 8) (v1 + 5) (c + 5) 1600).1 v1 1)) c 2 ((upI (cpA (cpA (cpA (cpA (cpA hp (v1 + 1) (c + 1) 160) (v1 + 2) (c + 2) 80) (v1 + 3) (c + 3) 2) (v1 + 4) (c + 4) 8) (v1 + 5) (c + 5) 1600) c 1 ((cpA (cpA (cpA (cpA (cpA hp (v1 + 1) (c + 1) 160) (v1 + 2) (c + 2) 80) (v1 + 3) (c + 3) 2) (v1 + 4) (c + 4) 8) (v1 + 5) (c + 5) 1600).1 v1 1)).1 v1 2)).1 v1 3)).1 v1 8)) c 9 ((upI (upI (upI (upI (cpA (cpA (cpA (cpA (cpA hp (v1 + 1) (c + 1) 160) (v1 + 2) (c + 2) 80) (v1 + 3) (c + 3) 2) (v1 + 4) (c + 4) 8) (v1 + 5) (c + 5) 1600) c 1 ((cpA (cpA (cpA (cpA (cpA hp (v1 + 1) (c + 1) 160) (v1 + 2) (c + 2) 80) (v1 + 3) (c + 3) 2) (v1 + 4) (c + 4) 8) (v1 + 5) (c + 5) 1600).1 v1 1)) c 2 ((upI (cpA (cpA (cpA (cpA (cpA hp (v1 + 1) (c + 1) 160) (v1 + 2) (c + 2) 80) (v1 + 3) (c + 3) 2) (v1 + 4) (c + 4) 8) (v1 + 5) (c + 5) 1600) c 1 ((cpA (cpA (cpA (cpA (cpA hp (v1 + 1) (c + 1) 160) (v1 + 2) (c + 2) 80) (v1 + 3) (c + 3) 2) (v1 + 4) (c + 4) 8) (v1 + 5) (c + 5) 1600).1 v1 1)).1 v1 2)) c 3 ((upI (upI (cpA (cpA (cpA (cpA (cpA hp (v1 + 1) (c + 1) 160) (v1 + 2) (c + 2) 80) (v1 + 3) (c + 3) 2) (v1 + 4) (c + 4) 8) (v1 + 5) (c + 5) 1600) c 1 ((cpA (cpA (cpA (cpA (cpA hp (v1 + 1) (c + 1) 160) (v1 + 2) (c + 2) 80) (v1 + 3) (c + 3) 2) (v1 + 4) (c + 4) 8) (v1 + 5) (c + 5) 1600).1 v1 1)) c 2 ((upI (cpA (cpA (cpA (cpA (cpA hp (v1 + 1) (c + 1) 160) (v1 + 2) (c + 2) 80) (v1 + 3) (c + 3) 2) (v1 + 4) (c + 4) 8) (v1 + 5) (c + 5) 1600) c 1 ((cpA (cpA (cpA (cpA (cpA hp (v1 + 1) (c + 1) 160) (v1 + 2) (c + 2) 80) (v1 + 3) (c + 3) 2) (v1 + 4) (c + 4) 8) (v1 + 5) (c + 5) 1600).1 v1 1)).1 v1 2)).1 v1 3)) c 8 ((upI (upI (upI (cpA (cpA (cpA (cpA (cpA hp (v1 + 1) (c + 1) 160) (v1 + 2) (c + 2) 80) (v1 + 3) (c + 3) 2) (v1 + 4) (c + 4) 8) (v1 + 5) (c + 5) 1600) c 1 ((cpA (cpA (cpA (cpA (cpA hp (v1 + 1) (c + 1) 160) (v1 + 2) (c + 2) 80) (v1 + 3) (c + 3) 2) (v1 + 4) (c + 4) 8) (v1 + 5) (c + 5) 1600).1 v1 1)) c 2 ((upI (cpA (cpA (cpA (cpA (cpA hp (v1 + 1) (c + 1) 160) (v1 + 2) (c + 2) 80) (v1 + 3) (c + 3) 2) (v1 + 4) (c + 4) 8) (v1 + 5) (c + 5) 1600) c 1 ((cpA (cpA (cpA (cpA (cpA hp (v1 + 1) (c + 1) 160) (v1 + 2) (c + 2) 80) (v1 + 3) (c + 3) 2) (v1 + 4) (c + 4) 8) (v1 + 5) (c + 5) 1600).1 v1 1)).1 v1 2)) c 3 ((upI (upI (cpA (cpA (cpA (cpA (cpA hp (v1 + 1) (c + 1) 160) (v1 + 2) (c + 2) 80) (v1 + 3) (c + 3) 2) (v1 + 4) (c + 4) 8) (v1 + 5) (c + 5) 1600) c 1 ((cpA (cpA (cpA (cpA (cpA hp (v1 + 1) (c + 1) 160) (v1 + 2) (c + 2) 80) (v1 + 3) (c + 3) 2) (v1 + 4) (c + 4) 8) (v1 + 5) (c + 5) 1600).1 v1 1)) c 2 ((upI (cpA (cpA (cpA (cpA (cpA hp (v1 + 1) (c + 1) 160) (v1 + 2) (c + 2) 80) (v1 + 3) (c + 3) 2) (v1 + 4) (c + 4) 8) (v1 + 5) (c + 5) 1600) c 1 ((cpA (cpA (cpA (cpA (cpA hp (v1 + 1) (c + 1) 160) (v1 + 2) (c + 2) 80) (v1 + 3) (c + 3) 2) (v1 + 4) (c + 4) 8) (v1 + 5) (c + 5) 1600).1 v1 1)).1 v1 2)).1 v1 3)).1 v1 8)).1 v1 9)).1 v1 10)) c 11 ((upI (upI (upI (upI (upI (upI (cpA (cpA (cpA (cpA (cpA hp (v1 + 1) (c + 1) 160) (v1 + 2) (c + 2) 80) (v1 + 3) (c + 3) 2) (v1 + 4) (c + 4) 8) (v1 + 5) (c + 5) 1600) c 1 ((cpA (cpA (cpA (cpA (cpA hp (v1 + 1) (c + 1) 160) (v1 + 2) (c + 2) 80) (v1 + 3) (c + 3) 2) (v1 + 4) (c + 4) 8) (v1 + 5) (c + 5) 1600).1 v1 1)) c 2 ((upI (cpA (cpA (cpA (cpA (cpA hp (v1 + 1) (c + 1) 160) (v1 + 2) (c + 2) 80) (v1 + 3) (c + 3) 2) (v1 + 4) (c + 4) 8) (v1 + 5) (c + 5) 1600) c 1 ((cpA (cpA (cpA (cpA (cpA hp (v1 + 1) (c + 1) 160) (v1 + 2) (c + 2) 80) (v1 + 3) (c + 3) 2) (v1 + 4) (c + 4) 8) (v1 + 5) (c + 5) 1600).1 v1 1)).1 v1 2)) c 3 ((upI (upI (cpA (cpA (cpA (cpA (cpA hp (v1 + 1) (c + 1) 160) (v1 + 2) (c + 2) 80) (v1 + 3) (c + 3) 2) (v1 + 4) (c + 4) 8) (v1 + 5) (c + 5) 1600) c 1 ((cpA (cpA (cpA (cpA (cpA hp (v1 + 1) (c + 1) 160) (v1 + 2) (c + 2) 80) (v1 + 3) (c + 3) 2) (v1 + 4) (c + 4) 8) (v1 + 5) (c + 5) 1600).1 v1 1)) c 2 ((upI (cpA (cpA (cpA (cpA (cpA hp (v1 + 1) (c + 1) 160) (v1 + 2) (c + 2) 80) (v1 + 3) (c + 3) 2) (v1 + 4) (c + 4) 8) (v1 + 5) (c + 5) 1600) c 1 ((cpA (cpA (cpA (cpA (cpA hp (v1 + 1) (c + 1) 160) (v1 + 2) (c + 2) 80) (v1 + 3) (c + 3) 2) (v1 + 4) (c + 4) 8) (v1 + 5) (c + 5) 1600).1 v1 1)).1 v1 2)).1 v1 3)) c 8 ((upI (upI (upI (cpA (cpA (cpA (cpA (cpA hp (v1 + 1) (c + 1) 160) (v1 + 2) (c + 2) 80) (v1 + 3) (c + 3) 2) (v1 + 4) (c + 4) 8) (v1 + 5) (c + 5) 1600) c 1 ((cpA (cpA (cpA (cpA (cpA hp (v1 + 1) (c + 1) 160) (v1 + 2) (c + 2) 80) (v1 + 3) (c + 3) 2) (v1 + 4) (c + 4) 8) (v1 + 5) (c + 5) 1600).1 v1 1)) c 2 ((upI (cpA (cpA (cpA (cpA (cpA hp (v1 + 1) (c + 1) 160) (v1 + 2) (c + 2) 80) (v1 + 3) (c + 3) 2) (v1 + 4) (c + 4) 8) (v1 + 5) (c + 5) 1600) c 1 ((cpA (cpA (cpA (cpA (cpA hp (v1 + 1) (c + 1) 160) (v1 + 2) (c + 2) 80) (v1 + 3) (c + 3) 2) (v1 + 4) (c + 4) 8) (v1 + 5) (c + 5) 1600).1 v1 1)).1 v1 2)) c 3 ((upI (upI (cpA (cpA (cpA (cpA (cpA hp (v1 + 1) (c + 1) 160) (v1 + 2) (c + 2) 80) (v1 + 3) (c + 3) 2) (v1 + 4) (c + 4) 8) (v1 + 5) (c + 5) 1600) c 1 ((cpA (cpA (cpA (cpA (cpA hp (v1 + 1) (c + 1) 160) (v1 + 2) (c + 2) 80) (v1 + 3) (c + 3) 2) (v1 + 4) (c + 4) 8) (v1 + 5) (c + 5) 1600).1 v1 1)) c 2 ((upI (cpA (cpA (cpA (cpA (cpA hp (v1 + 1) (c + 1) 160) (v1 + 2) (c + 2) 80) (v1 + 3) (c + 3) 2) (v1 + 4) (c + 4) 8) (v1 + 5) (c + 5) 1600) c 1 ((cpA (cpA (cpA (cpA (cpA hp (v1 + 1) (c + 1) 160) (v1 + 2) (c + 2) 80) (v1 + 3) (c + 3) 2) (v1 + 4) (c + 4) 8) (v1 + 5) (c + 5) 1600).1 v1 1)).1 v1 2)).1 v1 3)).1 v1 8)) c 9 ((upI (upI (upI (upI (cpA (cpA (cpA (cpA (cpA hp (v1 + 1) (c + 1) 160) (v1 + 2) (c + 2) 80) (v1 + 3) (c + 3) 2) (v1 + 4) (c + 4) 8) (v1 + 5) (c + 5) 1600) c 1 ((cpA (cpA (cpA (cpA (cpA hp (v1 + 1) (c + 1) 160) (v1 + 2) (c + 2) 80) (v1 + 3) (c + 3) 2) (v1 + 4) (c + 4) 8) (v1 + 5) (c + 5) 1600).1 v1 1)) c 2 ((upI (cpA (cpA (cpA (cpA (cpA hp (v1 + 1) (c + 1) 160) (v1 + 2) (c + 2) 80) (v1 + 3) (c + 3) 2) (v1 + 4) (c + 4) 8) (v1 + 5) (c + 5) 1600) c 1 ((cpA (cpA (cpA (cpA (cpA hp (v1 + 1) (c + 1) 160) (v1 + 2) (c + 2) 80) (v1 + 3) (c + 3) 2) (v1 + 4) (c + 4) 8) (v1 + 5) (c + 5) 1600).1 v1 1)).1 v1 2)) c 3 ((upI (upI (cpA (cpA (cpA (cpA (cpA hp (v1 + 1) (c + 1) 160) (v1 + 2) (c + 2) 80) (v1 + 3) (c + 3) 2) (v1 + 4) (c + 4) 8) (v1 + 5) (c + 5) 1600) c 1 ((cpA (cpA (cpA (cpA (cpA hp (v1 + 1) (c + 1) 160) (v1 + 2) (c + 2) 80) (v1 + 3) (c + 3) 2) (v1 + 4) (c + 4) 8) (v1 + 5) (c + 5) 1600).1 v1 1)) c 2 ((upI (cpA (cpA (cpA (cpA (cpA hp (v1 + 1) (c + 1) 160) (v1 + 2) (c + 2) 80) (v1 + 3) (c + 3) 2) (v1 + 4) (c + 4) 8) (v1 + 5) (c + 5) 1600) c 1 ((cpA (cpA (cpA (cpA (cpA hp (v1 + 1) (c + 1) 160) (v1 + 2) (c + 2) 80) (v1 + 3) (c + 3) 2) (v1 + 4) (c + 4) 8) (v1 + 5) (c + 5) 1600).1 v1 1)).1 v1 2)).1 v1 3)) c 8 ((upI (upI (upI (cpA (cpA (cpA (cpA (cpA hp (v1 + 1) (c + 1) 160) (v1 + 2) (c + 2) 80) (v1 + 3) (c + 3) 2) (v1 + 4) (c + 4) 8) (v1 + 5) (c + 5) 1600) c 1 ((cpA (cpA (cpA (cpA (cpA hp (v1 + 1) (c + 1) 160) (v1 + 2) (c + 2) 80) (v1 + 3) (c + 3) 2) (v1 + 4) (c + 4) 8) (v1 + 5) (c + 5) 1600).1 v1 1)) c 2 ((upI (cpA (cpA (cpA (cpA (cpA hp (v1 + 1) (c + 1) 160) (v1 + 2) (c + 2) 80) (v1 + 3) (c + 3) 2) (v1 + 4) (c + 4) 8) (v1 + 5) (c + 5) 1600) c 1 ((cpA (cpA (cpA (cpA (cpA hp (v1 + 1) (c + 1) 160) (v1 + 2) (c + 2) 80) (v1 + 3) (c + 3) 2) (v1 + 4) (c + 4) 8) (v1 + 5) (c + 5) 1600).1 v1 1)).1 v1 2)) c 3 ((upI (upI (cpA (cpA (cpA (cpA (cpA hp (v1 + 1) (c + 1) 160) (v1 + 2) (c + 2) 80) (v1 + 3) (c + 3) 2) (v1 + 4) (c + 4) 8) (v1 + 5) (c + 5) 1600) c 1 ((cpA (cpA (cpA (cpA (cpA hp (v1 + 1) (c + 1) 160) (v1 + 2) (c + 2) 80) (v1 + 3) (c + 3) 2) (v1 + 4) (c + 4) 8) (v1 + 5) (c + 5) 1600).1 v1 1)) c 2 ((upI (cpA (cpA (cpA (cpA (cpA hp (v1 + 1) (c + 1) 160) (v1 + 2) (c + 2) 80) (v1 + 3) (c + 3) 2) (v1 + 4) (c + 4) 8) (v1 + 5) (c + 5) 1600) c 1 ((cpA (cpA (cpA (cpA (cpA hp (v1 + 1) (c + 1) 160) (v1 + 2) (c + 2) 80) (v1 + 3) (c + 3) 2) (v1 + 4) (c + 4) 8) (v1 + 5) (c + 5) 1600).1 v1 1)).1 v1 2)).1 v1 3)).1 v1 8)).1 v1 9)) c 10 ((upI (upI (upI (upI (upI (cpA (cpA (cpA (cpA (cpA hp (v1 + 1) (c + 1) 160) (v1 + 2) (c + 2) 80) (v1 + 3) (c + 3) 2) (v1 + 4) (c + 4) 8) (v1 + 5) (c + 5) 1600) c 1 ((cpA (cpA (cpA (cpA (cpA hp (v1 + 1) (c + 1) 160) (v1 + 2) (c + 2) 80) (v1 + 3) (c + 3) 2) (v1 + 4) (c + 4) 8) (v1 + 5) (c + 5) 1600).1 v1 1)) c 2 ((upI (cpA (cpA (cpA (cpA (cpA hp (v1 + 1) (c + 1) 160) (v1 + 2) (c + 2) 80) (v1 + 3) (c + 3) 2) (v1 + 4) (c + 4) 8) (v1 + 5) (c + 5) 1600) c 1 ((cpA (cpA (cpA (cpA (cpA hp (v1 + 1) (c + 1) 160) (v1 + 2) (c + 2) 80) (v1 + 3) (c + 3) 2) (v1 + 4) (c + 4) 8) (v1 + 5) (c + 5) 1600).1 v1 1)).1 v1 2)) c 3 ((upI (upI (cpA (cpA (cpA (cpA (cpA hp (v1 + 1) (c + 1) 160) (v1 + 2) (c + 2) 80) (v1 + 3) (c + 3) 2) (v1 + 4) (c + 4) 8) (v1 + 5) (c + 5) 1600) c 1 ((cpA (cpA (cpA (cpA (cpA hp (v1 + 1) (c + 1) 160) (v1 + 2) (c + 2) 80) (v1 + 3) (c + 3) 2) (v1 + 4) (c + 4) 8) (v1 + 5) (c + 5) 1600).1 v1 1)) c 2 ((upI (cpA (cpA (cpA (cpA (cpA hp (v1 + 1) (c + 1) 160) (v1 + 2) (c + 2) 80) (v1 + 3) (c + 3) 2) (v1 + 4) (c + 4) 8) (v1 + 5) (c + 5) 1600) c 1 ((cpA (cpA (cpA (cpA (cpA hp (v1 + 1) (c + 1) 160) (v1 + 2) (c + 2) 80) (v1 + 3) (c + 3) 2) (v1 + 4) (c + 4) 8) (v1 + 5) (c + 5) 1600).1 v1 1)).1 v1 2)).1 v1 3)) c 8 ((upI (upI (upI (cpA (cpA (cpA (cpA (cpA hp (v1 + 1) (c + 1) 160) (v1 + 2) (c + 2) 80) (v1 + 3) (c + 3) 2) (v1 + 4) (c + 4) 8) (v1 + 5) (c + 5) 1600) c 1 ((cpA (cpA (cpA (cpA (cpA hp (v1 + 1) (c + 1) 160) (v1 + 2) (c + 2) 80) (v1 + 3) (c + 3) 2) (v1 + 4) (c + 4) 8) (v1 + 5) (c + 5) 1600).1 v1 1)) c 2 ((upI (cpA (cpA (cpA (cpA (cpA hp (v1 + 1) (c + 1) 160) (v1 + 2) (c + 2) 80) (v1 + 3) (c + 3) 2) (v1 + 4) (c + 4) 8) (v1 + 5) (c + 5) 1600) c 1 ((cpA (cpA (cpA (cpA (cpA hp (v1 + 1) (c + 1) 160) (v1 + 2) (c + 2) 80) (v1 + 3) (c + 3) 2) (v1 + 4) (c + 4) 8) (v1 + 5) (c + 5) 1600).1 v1 1)).1 v1 2)) c 3 ((upI (upI (cpA (cpA (cpA (cpA (cpA hp (v1 + 1) (c + 1) 160) (v1 + 2) (c + 2) 80) (v1 + 3) (c + 3) 2) (v1 + 4) (c + 4) 8) (v1 + 5) (c + 5) 1600) c 1 ((cpA (cpA (cpA (cpA (cpA hp (v1 + 1) (c + 1) 160) (v1 + 2) (c + 2) 80) (v1 + 3) (c + 3) 2) (v1 + 4) (c + 4) 8) (v1 + 5) (c + 5) 1600).1 v1 1)) c 2 ((upI (cpA (cpA (cpA (cpA (cpA hp (v1 + 1) (c + 1) 160) (v1 + 2) (c + 2) 80) (v1 + 3) (c + 3) 2) (v1 + 4) (c + 4) 8) (v1 + 5) (c + 5) 1600) c 1 ((cpA (cpA (cpA (cpA (cpA hp (v1 + 1) (c + 1) 160) (v1 + 2) (c + 2) 80) (v1 + 3) (c + 3) 2) (v1 + 4) (c + 4) 8) (v1 + 5) (c + 5) 1600).1 v1 1)).1 v1 2)).1 v1 3)).1 v1 8)) c 9 ((upI (upI (upI (upI (cpA (cpA (cpA (cpA (cpA hp (v1 + 1) (c + 1) 160) (v1 + 2) (c + 2) 80) (v1 + 3) (c + 3) 2) (v1 + 4) (c + 4) 8) (v1 + 5) (c + 5) 1600) c 1 ((cpA (cpA (cpA (cpA (cpA hp (v1 + 1) (c + 1) 160) (v1 + 2) (c + 2) 80) (v1 + 3) (c + 3) 2) (v1 + 4) (c + 4) 8) (v1 + 5) (c + 5) 1600).1 v1 1)) c 2 ((upI (cpA (cpA (cpA (cpA (cpA hp (v1 + 1) (c + 1) 160) (v1 + 2) (c + 2) 80) (v1 + 3) (c + 3) 2) (v1 + 4) (c + 4) 8) (v1 + 5) (c + 5) 1600) c 1 ((cpA (cpA (cpA (cpA (cpA hp (v1 + 1) (c + 1) 160) (v1 + 2) (c + 2) 80) (v1 + 3) (c + 3) 2) (v1 + 4) (c + 4) 8) (v1 + 5) (c + 5) 1600).1 v1 1)).1 v1 2)) c 3 ((upI (upI (cpA (cpA (cpA (cpA (cpA hp (v1 + 1) (c + 1) 160) (v1 + 2) (c + 2) 80) (v1 + 3) (c + 3) 2) (v1 + 4) (c + 4) 8) (v1 + 5) (c + 5) 1600) c 1 ((cpA (cpA (cpA (cpA (cpA hp (v1 + 1) (c + 1) 160) (v1 + 2) (c + 2) 80) (v1 + 3) (c + 3) 2) (v1 + 4) (c + 4) 8) (v1 + 5) (c + 5) 1600).1 v1 1)) c 2 ((upI (cpA (cpA (cpA (cpA (cpA hp (v1 + 1) (c + 1) 160) (v1 + 2) (c + 2) 80) (v1 + 3) (c + 3) 2) (v1 + 4) (c + 4) 8) (v1 + 5) (c + 5) 1600) c 1 ((cpA (cpA (cpA (cpA (cpA hp (v1 + 1) (c + 1) 160) (v1 + 2) (c + 2) 80) (v1 + 3) (c + 3) 2) (v1 + 4) (c + 4) 8) (v1 + 5) (c + 5) 1600).1 v1 1)).1 v1 2)).1 v1 3)) c 8 ((upI (upI (upI (cpA (cpA (cpA (cpA (cpA hp (v1 + 1) (c + 1) 160) (v1 + 2) (c + 2) 80) (v1 + 3) (c + 3) 2) (v1 + 4) (c + 4) 8) (v1 + 5) (c + 5) 1600) c 1 ((cpA (cpA (cpA (cpA (cpA hp (v1 + 1) (c + 1) 160) (v1 + 2) (c + 2) 80) (v1 + 3) (c + 3) 2) (v1 + 4) (c + 4) 8) (v1 + 5) (c + 5) 1600).1 v1 1)) c 2 ((upI (cpA (cpA (cpA (cpA (cpA hp (v1 + 1) (c + 1) 160) (v1 + 2) (c + 2) 80) (v1 + 3) (c + 3) 2) (v1 + 4) (c + 4) 8) (v1 + 5) (c + 5) 1600) c 1 ((cpA (cpA (cpA (cpA (cpA hp (v1 + 1) (c + 1) 160) (v1 + 2) (c + 2) 80) (v1 + 3) (c + 3) 2) (v1 + 4) (c + 4) 8) (v1 + 5) (c + 5) 1600).1 v1 1)).1 v1 2)) c 3 ((upI (upI (cpA (cpA (cpA (cpA (cpA hp (v1 + 1) (c + 1) 160) (v1 + 2) (c + 2) 80) (v1 + 3) (c + 3) 2) (v1 + 4) (c + 4) 8) (v1 + 5) (c + 5) 1600) c 1 ((cpA (cpA (cpA (cpA (cpA hp (v1 + 1) (c + 1) 160) (v1 + 2) (c + 2) 80) (v1 + 3) (c + 3) 2) (v1 + 4) (c + 4) 8) (v1 + 5) (c + 5) 1600).1 v1 1)) c 2 ((upI (cpA (cpA (cpA (cpA (cpA hp (v1 + 1) (c + 1) 160) (v1 + 2) (c + 2) 80) (v1 + 3) (c + 3) 2) (v1 + 4) (c + 4) 8) (v1 + 5) (c + 5) 1600) c 1 ((cpA (cpA (cpA (cpA (cpA hp (v1 + 1) (c + 1) 160) (v1 + 2) (c + 2) 80) (v1 + 3) (c + 3) 2) (v1 + 4) (c + 4) 8) (v1 + 5) (c + 5) 1600).1 v1 1)).1 v1 2)).1 v1 3)).1 v1 8)).1 v1 9)).1 v1 10)).1 v1 11)) c 12 ((upI (upI (upI (upI (upI (upI (upI (cpA (cpA (cpA (cpA (cpA hp (v1 + 1) (c + 1) 160) (v1 + 2) (c + 2) 80) (v1 + 3) (c + 3) 2) (v1 + 4) (c + 4) 8) (v1 + 5) (c + 5) 1600) c 1 ((cpA (cpA (cpA (cpA (cpA hp (v1 + 1) (c + 1) 160) (v1 + 2) (c + 2) 80) (v1 + 3) (c + 3) 2) (v1 + 4) (c + 4) 8) (v1 + 5) (c + 5) 1600).1 v1 1)) c 2 ((upI (cpA (cpA (cpA (cpA (cpA hp (v1 + 1) (c + 1) 160) (v1 + 2) (c + 2) 80) (v1 + 3) (c + 3) 2) (v1 + 4) (c + 4) 8) (v1 + 5) (c + 5) 1600) c 1 ((cpA (cpA (cpA (cpA (cpA hp (v1 + 1) (c + 1) 160) (v1 + 2) (c + 2) 80) (v1 + 3) (c + 3) 2) (v1 + 4) (c + 4) 8) (v1 + 5) (c + 5) 1600).1 v1 1)).1 v1 2)) c 3 ((upI (upI (cpA (cpA (cpA (cpA (cpA hp (v1 + 1) (c + 1) 160) (v1 + 2) (c + 2) 80) (v1 + 3) (c + 3) 2) (v1 + 4) (c + 4) 8) (v1 + 5) (c + 5) 1600) c 1 ((cpA (cpA (cpA (cpA (cpA hp (v1 + 1) (c + 1) 160) (v1 + 2) (c + 2) 80) (v1 + 3) (c + 3) 2) (v1 + 4) (c + 4) 8) (v1 + 5) (c + 5) 1600).1 v1 1)) c 2 ((upI (cpA (cpA (cpA (cpA (cpA hp (v1 + 1) (c + 1) 160) (v1 + 2) (c + 2) 80) (v1 + 3) (c + 3) 2) (v1 + 4) (c + 4) 8) (v1 + 5) (c + 5) 1600) c 1 ((cpA (cpA (cpA (cpA (cpA hp (v1 + 1) (c + 1) 160) (v1 + 2) (c + 2) 80) (v1 + 3) (c + 3) 2) (v1 + 4) (c + 4) 8) (v1 + 5) (c + 5) 1600).1 v1 1)).1 v1 2)).1 v1 3)) c 8 ((upI (upI (upI (cpA (cpA (cpA (cpA (cpA hp (v1 + 1) (c + 1) 160) (v1 + 2) (c + 2) 80) (v1 + 3) (c + 3) 2) (v1 + 4) (c + 4) 8) (v1 + 5) (c + 5) 1600) c 1 ((cpA (cpA (cpA (cpA (cpA hp (v1 + 1) (c + 1) 160) (v1 + 2) (c + 2) 80) (v1 + 3) (c + 3) 2) (v1 + 4) (c + 4) 8) (v1 + 5) (c + 5) 1600).1 v1 1)) c 2 ((upI (cpA (cpA (cpA (cpA (cpA hp (v1 + 1) (c + 1) 160) (v1 + 2) (c + 2) 80) (v1 + 3) (c + 3) 2) (v1 + 4) (c + 4) 8) (v1 + 5) (c + 5) 1600) c 1 ((cpA (cpA (cpA (cpA (cpA hp (v1 + 1) (c + 1) 160) (v1 + 2) (c + 2) 80) (v1 + 3) (c + 3) 2) (v1 + 4) (c + 4) 8) (v1 + 5) (c + 5) 1600).1 v1 1)).1 v1 2)) c 3 ((upI (upI (cpA (cpA (cpA (cpA (cpA hp (v1 + 1) (c + 1) 160) (v1 + 2) (c + 2) 80) (v1 + 3) (c + 3) 2) (v1 + 4) (c + 4) 8) (v1 + 5) (c + 5) 1600) c 1 ((cpA (cpA (cpA (cpA (cpA hp (v1 + 1) (c + 1) 160) (v1 + 2) (c + 2) 80) (v1 + 3) (c + 3) 2) (v1 + 4) (c + 4) 8) (v1 + 5) (c + 5) 1600).1 v1 1)) c 2 ((upI (cpA (cpA (cpA (cpA (cpA hp (v1 + 1) (c + 1) 160) (v1 + 2) (c + 2) 80) (v1 + 3) (c + 3) 2) (v1 + 4) (c + 4) 8) (v1 + 5) (c + 5) 1600) c 1 ((cpA (cpA (cpA (cpA (cpA hp (v1 + 1) (c + 1) 160) (v1 + 2) (c + 2) 80) (v1 + 3) (c + 3) 2) (v1 + 4) (c + 4) 8) (v1 + 5) (c + 5) 1600).1 v1 1)).1 v1 2)).1 v1 3)).1 v1 8)) c 9 ((upI (upI (upI (upI (cpA (cpA (cpA (cpA (cpA hp (v1 + 1) (c + 1) 160) (v1 + 2) (c + 2) 80) (v1 + 3) (c + 3) 2) (v1 + 4) (c + 4) 8) (v1 + 5) (c + 5) 1600) c 1 ((cpA (cpA (cpA (cpA (cpA hp (v1 + 1) (c + 1) 160) (v1 + 2) (c + 2) 80) (v1 + 3) (c + 3) 2) (v1 + 4) (c + 4) 8) (v1 + 5) (c + 5) 1600).1 v1 1)) c 2 ((upI (cpA (cpA (cpA (cpA (cpA hp (v1 + 1) (c + 1) 160) (v1 + 2) (c + 2) 80) (v1 + 3) (c + 3) 2) (v1 + 4) (c + 4) 8) (v1 + 5) (c + 5) 1600) c 1 ((cpA (cpA (cpA (cpA (cpA hp (v1 + 1) (c + 1) 160) (v1 + 2) (c + 2) 80) (v1 + 3) (c + 3) 2) (v1 + 4) (c + 4) 8) (v1 + 5) (c + 5) 1600).1 v1 1)).1 v1 2)) c 3 ((upI (upI (cpA (cpA (cpA (cpA (cpA hp (v1 + 1) (c + 1) 160) (v1 + 2) (c + 2) 80) (v1 + 3) (c + 3) 2) (v1 + 4) (c + 4) 8) (v1 + 5) (c + 5) 1600) c 1 ((cpA (cpA (cpA (cpA (cpA hp (v1 + 1) (c + 1) 160) (v1 + 2) (c + 2) 80) (v1 + 3) (c + 3) 2) (v1 + 4) (c + 4) 8) (v1 + 5) (c + 5) 1600).1 v1 1)) c 2 ((upI (cpA (cpA (cpA (cpA (cpA hp (v1 + 1) (c + 1) 160) (v1 + 2) (c + 2) 80) (v1 + 3) (c + 3) 2) (v1 + 4) (c + 4) 8) (v1 + 5) (c + 5) 1600) c 1 ((cpA (cpA (cpA (cpA (cpA hp (v1 + 1) (c + 1) 160) (v1 + 2) (c + 2) 80) (v1 + 3) (c + 3) 2) (v1 + 4) (c + 4) 8) (v1 + 5) (c + 5) 1600).1 v1 1)).1 v1 2)).1 v1 3)) c 8 ((upI (upI (upI (cpA (cpA (cpA (cpA (cpA hp (v1 + 1) (c + 1) 160) (v1 + 2) (c + 2) 80) (v1 + 3) (c + 3) 2) (v1 + 4) (c + 4) 8) (v1 + 5) (c + 5) 1600) c 1 ((cpA (cpA (cpA (cpA (cpA hp (v1 + 1) (c + 1) 160) (v1 + 2) (c + 2) 80) (v1 + 3) (c + 3) 2) (v1 + 4) (c + 4) 8) (v1 + 5) (c + 5) 1600).1 v1 1)) c 2 ((upI (cpA (cpA (cpA (cpA (cpA hp (v1 + 1) (c + 1) 160) (v1 + 2) (c + 2) 80) (v1 + 3) (c + 3) 2) (v1 + 4) (c + 4) 8) (v1 + 5) (c + 5) 1600) c 1 ((cpA (cpA (cpA (cpA (cpA hp (v1 + 1) (c + 1) 160) (v1 + 2) (c + 2) 80) (v1 + 3) (c + 3) 2) (v1 + 4) (c + 4) 8) (v1 + 5) (c + 5) 1600).1 v1 1)).1 v1 2)) c 3 ((upI (upI (cpA (cpA (cpA (cpA (cpA hp (v1 + 1) (c + 1) 160) (v1 + 2) (c + 2) 80) (v1 + 3) (c + 3) 2) (v1 + 4) (c + 4) 8) (v1 + 5) (c + 5) 1600) c 1 ((cpA (cpA (cpA (cpA (cpA hp (v1 + 1) (c + 1) 160) (v1 + 2) (c + 2) 80) (v1 + 3) (c + 3) 2) (v1 + 4) (c + 4) 8) (v1 + 5) (c + 5) 1600).1 v1 1)) c 2 ((upI (cpA (cpA (cpA (cpA (cpA hp (v1 + 1) (c + 1) 160) (v1 + 2) (c + 2) 80) (v1 + 3) (c + 3) 2) (v1 + 4) (c + 4) 8) (v1 + 5) (c + 5) 1600) c 1 ((cpA (cpA (cpA (cpA (cpA hp (v1 + 1) (c + 1) 160) (v1 + 2) (c + 2) 80) (v1 + 3) (c + 3) 2) (v1 + 4) (c + 4) 8) (v1 + 5) (c + 5) 1600).1 v1 1)).1 v1 2)).1 v1 3)).1 v1 8)).1 v1 9)) c 10 ((upI (upI (upI (upI (upI (cpA (cpA (cpA (cpA (cpA hp (v1 + 1) (c + 1) 160) (v1 + 2) (c + 2) 80) (v1 + 3) (c + 3) 2) (v1 + 4) (c + 4) 8) (v1 + 5) (c + 5) 1600) c 1 ((cpA (cpA (cpA (cpA (cpA hp (v1 + 1) (c + 1) 160) (v1 + 2) (c + 2) 80) (v1 + 3) (c + 3) 2) (v1 + 4) (c + 4) 8) (v1 + 5) (c + 5) 1600).1 v1 1)) c 2 ((upI (cpA (cpA (cpA (cpA (cpA hp (v1 + 1) (c + 1) 160) (v1 + 2) (c + 2) 80) (v1 + 3) (c + 3) 2) (v1 + 4) (c + 4) 8) (v1 + 5) (c + 5) 1600) c 1 ((cpA (cpA (cpA (cpA (cpA hp (v1 + 1) (c + 1) 160) (v1 + 2) (c + 2) 80) (v1 + 3) (c + 3) 2) (v1 + 4) (c + 4) 8) (v1 + 5) (c + 5) 1600).1 v1 1)).1 v1 2)) c 3 ((upI (upI (cpA (cpA (cpA (cpA (cpA hp (v1 + 1) (c + 1) 160) (v1 + 2) (c + 2) 80) (v1 + 3) (c + 3) 2) (v1 + 4) (c + 4) 8) (v1 + 5) (c + 5) 1600) c 1 ((cpA (cpA (cpA (cpA (cpA hp (v1 + 1) (c + 1) 160) (v1 + 2) (c + 2) 80) (v1 + 3) (c + 3) 2) (v1 + 4) (c + 4) 8) (v1 + 5) (c + 5) 1600).1 v1 1)) c 2 ((upI (cpA (cpA (cpA (cpA (cpA hp (v1 + 1) (c + 1) 160) (v1 + 2) (c + 2) 80) (v1 + 3) (c + 3) 2) (v1 + 4) (c + 4) 8) (v1 + 5) (c + 5) 1600) c 1 ((cpA (cpA (cpA (cpA (cpA hp (v1 + 1) (c + 1) 160) (v1 + 2) (c + 2) 80) (v1 + 3) (c + 3) 2) (v1 + 4) (c + 4) 8) (v1 + 5) (c + 5) 1600).1 v1 1)).1 v1 2)).1 v1 3)) c 8 ((upI (upI (upI (cpA (cpA (cpA (cpA (cpA hp (v1 + 1) (c + 1) 160) (v1 + 2) (c + 2) 80) (v1 + 3) (c + 3) 2) (v1 + 4) (c + 4) 8) (v1 + 5) (c + 5) 1600) c 1 ((cpA (cpA (cpA (cpA (cpA hp (v1 + 1) (c + 1) 160) (v1 + 2) (c + 2) 80) (v1 + 3) (c + 3) 2) (v1 + 4) (c + 4) 8) (v1 + 5) (c + 5) 1600).1 v1 1)) c 2 ((upI (cpA (cpA (cpA (cpA (cpA hp (v1 + 1) (c + 1) 160) (v1 + 2) (c + 2) 80) (v1 + 3) (c + 3) 2) (v1 + 4) (c + 4) 8) (v1 + 5) (c + 5) 1600) c 1 ((cpA (cpA (cpA (cpA (cpA hp (v1 + 1) (c + 1) 160) (v1 + 2) (c + 2) 80) (v1 + 3) (c + 3) 2) (v1 + 4) (c + 4) 8) (v1 + 5) (c + 5) 1600).1 v1 1)).1 v1 2)) c 3 ((upI (upI (cpA (cpA (cpA (cpA (cpA hp (v1 + 1) (c + 1) 160) (v1 + 2) (c + 2) 80) (v1 + 3) (c + 3) 2) (v1 + 4) (c + 4) 8) (v1 + 5) (c + 5) 1600) c 1 ((cpA (cpA (cpA (cpA (cpA hp (v1 + 1) (c + 1) 160) (v1 + 2) (c + 2) 80) (v1 + 3) (c + 3) 2) (v1 + 4) (c + 4) 8) (v1 + 5) (c + 5) 1600).1 v1 1)) c 2 ((upI (cpA (cpA (cpA (cpA (cpA hp (v1 + 1) (c + 1) 160) (v1 + 2) (c + 2) 80) (v1 + 3) (c + 3) 2) (v1 + 4) (c + 4) 8) (v1 + 5) (c + 5) 1600) c 1 ((cpA (cpA (cpA (cpA (cpA hp (v1 + 1) (c + 1) 160) (v1 + 2) (c + 2) 80) (v1 + 3) (c + 3) 2) (v1 + 4) (c + 4) 8) (v1 + 5) (c + 5) 1600).1 v1 1)).1 v1 2)).1 v1 3)).1 v1 8)) c 9 ((upI (upI (upI (upI (cpA (cpA (cpA (cpA (cpA hp (v1 + 1) (c + 1) 160) (v1 + 2) (c + 2) 80) (v1 + 3) (c + 3) 2) (v1 + 4) (c + 4) 8) (v1 + 5) (c + 5) 1600) c 1 ((cpA (cpA (cpA (cpA (cpA hp (v1 + 1) (c + 1) 160) (v1 + 2) (c + 2) 80) (v1 + 3) (c + 3) 2) (v1 + 4) (c + 4) 8) (v1 + 5) (c + 5) 1600).1 v1 1)) c 2 ((upI (cpA (cpA (cpA (cpA (cpA hp (v1 + 1) (c + 1) 160) (v1 + 2) (c + 2) 80) (v1 + 3) (c + 3) 2) (v1 + 4) (c + 4) 8) (v1 + 5) (c + 5) 1600) c 1 ((cpA (cpA (cpA (cpA (cpA hp (v1 + 1) (c + 1) 160) (v1 + 2) (c + 2) 80) (v1 + 3) (c + 3) 2) (v1 + 4) (c + 4) 8) (v1 + 5) (c + 5) 1600).1 v1 1)).1 v1 2)) c 3 ((upI (upI (cpA (cpA (cpA (cpA (cpA hp (v1 + 1) (c + 1) 160) (v1 + 2) (c + 2) 80) (v1 + 3) (c + 3) 2) (v1 + 4) (c + 4) 8) (v1 + 5) (c + 5) 1600) c 1 ((cpA (cpA (cpA (cpA (cpA hp (v1 + 1) (c + 1) 160) (v1 + 2) (c + 2) 80) (v1 + 3) (c + 3) 2) (v1 + 4) (c + 4) 8) (v1 + 5) (c + 5) 1600).1 v1 1)) c 2 ((upI (cpA (cpA (cpA (cpA (cpA hp (v1 + 1) (c + 1) 160) (v1 + 2) (c + 2) 80) (v1 + 3) (c + 3) 2) (v1 + 4) (c + 4) 8) (v1 + 5) (c + 5) 1600) c 1 ((cpA (cpA (cpA (cpA (cpA hp (v1 + 1) (c + 1) 160) (v1 + 2) (c + 2) 80) (v1 + 3) (c + 3) 2) (v1 + 4) (c + 4) 8) (v1 + 5) (c + 5) 1600).1 v1 1)).1 v1 2)).1 v1 3)) c 8 ((upI (upI (upI (cpA (cpA (cpA (cpA (cpA hp (v1 + 1) (c + 1) 160) (v1 + 2) (c + 2) 80) (v1 + 3) (c + 3) 2) (v1 + 4) (c + 4) 8) (v1 + 5) (c + 5) 1600) c 1 ((cpA (cpA (cpA (cpA (cpA hp (v1 + 1) (c + 1) 160) (v1 + 2) (c + 2) 80) (v1 + 3) (c + 3) 2) (v1 + 4) (c + 4) 8) (v1 + 5) (c + 5) 1600).1 v1 1)) c 2 ((upI (cpA (cpA (cpA (cpA (cpA hp (v1 + 1) (c + 1) 160) (v1 + 2) (c + 2) 80) (v1 + 3) (c + 3) 2) (v1 + 4) (c + 4) 8) (v1 + 5) (c + 5) 1600) c 1 ((cpA (cpA (cpA (cpA (cpA hp (v1 + 1) (c + 1) 160) (v1 + 2) (c + 2) 80) (v1 + 3) (c + 3) 2) (v1 + 4) (c + 4) 8) (v1 + 5) (c + 5) 1600).1 v1 1)).1 v1 2)) c 3 ((upI (upI (cpA (cpA (cpA (cpA (cpA hp (v1 + 1) (c + 1) 160) (v1 + 2) (c + 2) 80) (v1 + 3) (c + 3) 2) (v1 + 4) (c + 4) 8) (v1 + 5) (c + 5) 1600) c 1 ((cpA (cpA (cpA (cpA (cpA hp (v1 + 1) (c + 1) 160) (v1 + 2) (c + 2) 80) (v1 + 3) (c + 3) 2) (v1 + 4) (c + 4) 8) (v1 + 5) (c + 5) 1600).1 v1 1)) c 2 ((upI (cpA (cpA (cpA (cpA (cpA hp (v1 + 1) (c + 1) 160) (v1 + 2) (c + 2) 80) (v1 + 3) (c + 3) 2) (v1 + 4) (c + 4) 8) (v1 + 5) (c + 5) 1600) c 1 ((cpA (cpA (cpA (cpA (cpA hp (v1 + 1) (c + 1) 160) (v1 + 2) (c + 2) 80) (v1 + 3) (c + 3) 2) (v1 + 4) (c + 4) 8) (v1 + 5) (c + 5) 1600).1 v1 1)).1 v1 2)).1 v1 3)).1 v1 8)).1 v1 9)).1 v1 10)) c 11 ((upI (upI (upI (upI (upI (upI (cpA (cpA (cpA (cpA (cpA hp (v1 + 1) (c + 1) 160) (v1 + 2) (c + 2) 80) (v1 + 3) (c + 3) 2) (v1 + 4) (c + 4) 8) (v1 + 5) (c + 5) 1600) c 1 ((cpA (cpA (cpA (cpA (cpA hp (v1 + 1) (c + 1) 160) (v1 + 2) (c + 2) 80) (v1 + 3) (c + 3) 2) (v1 + 4) (c + 4) 8) (v1 + 5) (c + 5) 1600).1 v1 1)) c 2 ((upI (cpA (cpA (cpA (cpA (cpA hp (v1 + 1) (c + 1) 160) (v1 + 2) (c + 2) 80) (v1 + 3) (c + 3) 2) (v1 + 4) (c + 4) 8) (v1 + 5) (c + 5) 1600) c 1 ((cpA (cpA (cpA (cpA (cpA hp (v1 + 1) (c + 1) 160) (v1 + 2) (c + 2) 80) (v1 + 3) (c + 3) 2) (v1 + 4) (c + 4) 8) (v1 + 5) (c + 5) 1600).1 v1 1)).1 v1 2)) c 3 ((upI (upI (cpA (cpA (cpA (cpA (cpA hp (v1 + 1) (c + 1) 160) (v1 + 2) (c + 2) 80) (v1 + 3) (c + 3) 2) (v1 + 4) (c + 4) 8) (v1 + 5) (c + 5) 1600) c 1 ((cpA (cpA (cpA (cpA (cpA hp (v1 + 1) (c + 1) 160) (v1 + 2) (c + 2) 80) (v1 + 3) (c + 3) 2) (v1 + 4) (c + 4) 8) (v1 + 5) (c + 5) 1600).1 v1 1)) c 2 ((upI (cpA (cpA (cpA (cpA (cpA hp (v1 + 1) (c + 1) 160) (v1 + 2) (c + 2) 80) (v1 + 3) (c + 3) 2) (v1 + 4) (c + 4) 8) (v1 + 5) (c + 5) 1600) c 1 ((cpA (cpA (cpA (cpA (cpA hp (v1 + 1) (c + 1) 160) (v1 + 2) (c + 2) 80) (v1 + 3) (c + 3) 2) (v1 + 4) (c + 4) 8) (v1 + 5) (c + 5) 1600).1 v1 1)).1 v1 2)).1 v1 3)) c 8 ((upI (upI (upI (cpA (cpA (cpA (cpA (cpA hp (v1 + 1) (c + 1) 160) (v1 + 2) (c + 2) 80) (v1 + 3) (c + 3) 2) (v1 + 4) (c + 4) 8) (v1 + 5) (c + 5) 1600) c 1 ((cpA (cpA (cpA (cpA (cpA hp (v1 + 1) (c + 1) 160) (v1 + 2) (c + 2) 80) (v1 + 3) (c + 3) 2) (v1 + 4) (c + 4) 8) (v1 + 5) (c + 5) 1600).1 v1 1)) c 2 ((upI (cpA (cpA (cpA (cpA (cpA hp (v1 + 1) (c + 1) 160) (v1 + 2) (c + 2) 80) (v1 + 3) (c + 3) 2) (v1 + 4) (c + 4) 8) (v1 + 5) (c + 5) 1600) c 1 ((cpA (cpA (cpA (cpA (cpA hp (v1 + 1) (c + 1) 160) (v1 + 2) (c + 2) 80) (v1 + 3) (c + 3) 2) (v1 + 4) (c + 4) 8) (v1 + 5) (c + 5) 1600).1 v1 1)).1 v1 2)) c 3 ((upI (upI (cpA (cpA (cpA (cpA (cpA hp (v1 + 1) (c + 1) 160) (v1 + 2) (c + 2) 80) (v1 + 3) (c + 3) 2) (v1 + 4) (c + 4) 8) (v1 + 5) (c + 5) 1600) c 1 ((cpA (cpA (cpA (cpA (cpA hp (v1 + 1) (c + 1) 160) (v1 + 2) (c + 2) 80) (v1 + 3) (c + 3) 2) (v1 + 4) (c + 4) 8) (v1 + 5) (c + 5) 1600).1 v1 1)) c 2 ((upI (cpA (cpA (cpA (cpA (cpA hp (v1 + 1) (c + 1) 160) (v1 + 2) (c + 2) 80) (v1 + 3) (c + 3) 2) (v1 + 4) (c + 4) 8) (v1 + 5) (c + 5) 1600) c 1 ((cpA (cpA (cpA (cpA (cpA hp (v1 + 1) (c + 1) 160) (v1 + 2) (c + 2) 80) (v1 + 3) (c + 3) 2) (v1 + 4) (c + 4) 8) (v1 + 5) (c + 5) 1600).1 v1 1)).1 v1 2)).1 v1 3)).1 v1 8)) c 9 ((upI (upI (upI (upI (cpA (cpA (cpA (cpA (cpA hp (v1 + 1) (c + 1) 160) (v1 + 2) (c + 2) 80) (v1 + 3) (c + 3) 2) (v1 + 4) (c + 4) 8) (v1 + 5) (c + 5) 1600) c 1 ((cpA (cpA (cpA (cpA (cpA hp (v1 + 1) (c + 1) 160) (v1 + 2) (c + 2) 80) (v1 + 3) (c + 3) 2) (v1 + 4) (c + 4) 8) (v1 + 5) (c + 5) 1600).1 v1 1)) c 2 ((upI (cpA (cpA (cpA (cpA (cpA hp (v1 + 1) (c + 1) 160) (v1 + 2) (c + 2) 80) (v1 + 3) (c + 3) 2) (v1 + 4) (c + 4) 8) (v1 + 5) (c + 5) 1600) c 1 ((cpA (cpA (cpA (cpA (cpA hp (v1 + 1) (c + 1) 160) (v1 + 2) (c + 2) 80) (v1 + 3) (c + 3) 2) (v1 + 4) (c + 4) 8) (v1 + 5) (c + 5) 1600).1 v1 1)).1 v1 2)) c 3 ((upI (upI (cpA (cpA (cpA (cpA (cpA hp (v1 + 1) (c + 1) 160) (v1 + 2) (c + 2) 80) (v1 + 3) (c + 3) 2) (v1 + 4) (c + 4) 8) (v1 + 5) (c + 5) 1600) c 1 ((cpA (cpA (cpA (cpA (cpA hp (v1 + 1) (c + 1) 160) (v1 + 2) (c + 2) 80) (v1 + 3) (c + 3) 2) (v1 + 4) (c + 4) 8) (v1 + 5) (c + 5) 1600).1 v1 1)) c 2 ((upI (cpA (cpA (cpA (cpA (cpA hp (v1 + 1) (c + 1) 160) (v1 + 2) (c + 2) 80) (v1 + 3) (c + 3) 2) (v1 + 4) (c + 4) 8) (v1 + 5) (c + 5) 1600) c 1 ((cpA (cpA (cpA (cpA (cpA hp (v1 + 1) (c + 1) 160) (v1 + 2) (c + 2) 80) (v1 + 3) (c + 3) 2) (v1 + 4) (c + 4) 8) (v1 + 5) (c + 5) 1600).1 v1 1)).1 v1 2)).1 v1 3)) c 8 ((upI (upI (upI (cpA (cpA (cpA (cpA (cpA hp (v1 + 1) (c + 1) 160) (v1 + 2) (c + 2) 80) (v1 + 3) (c + 3) 2) (v1 + 4) (c + 4) 8) (v1 + 5) (c + 5) 1600) c 1 ((cpA (cpA (cpA (cpA (cpA hp (v1 + 1) (c + 1) 160) (v1 + 2) (c + 2) 80) (v1 + 3) (c + 3) 2) (v1 + 4) (c + 4) 8) (v1 + 5) (c + 5) 1600).1 v1 1)) c 2 ((upI (cpA (cpA (cpA (cpA (cpA hp (v1 + 1) (c + 1) 160) (v1 + 2) (c + 2) 80) (v1 + 3) (c + 3) 2) (v1 + 4) (c + 4) 8) (v1 + 5) (c + 5) 1600) c 1 ((cpA (cpA (cpA (cpA (cpA hp (v1 + 1) (c + 1) 160) (v1 + 2) (c + 2) 80) (v1 + 3) (c + 3) 2) (v1 + 4) (c + 4) 8) (v1 + 5) (c + 5) 1600).1 v1 1)).1 v1 2)) c 3 ((upI (upI (cpA (cpA (cpA (cpA (cpA hp (v1 + 1) (c + 1) 160) (v1 + 2) (c + 2) 80) (v1 + 3) (c + 3) 2) (v1 + 4) (c + 4) 8) (v1 + 5) (c + 5) 1600) c 1 ((cpA (cpA (cpA (cpA (cpA hp (v1 + 1) (c + 1) 160) (v1 + 2) (c + 2) 80) (v1 + 3) (c + 3) 2) (v1 + 4) (c + 4) 8) (v1 + 5) (c + 5) 1600).1 v1 1)) c 2 ((upI (cpA (cpA (cpA (cpA (cpA hp (v1 + 1) (c + 1) 160) (v1 + 2) (c + 2) 80) (v1 + 3) (c + 3) 2) (v1 + 4) (c + 4) 8) (v1 + 5) (c + 5) 1600) c 1 ((cpA (cpA (cpA (cpA (cpA hp (v1 + 1) (c + 1) 160) (v1 + 2) (c + 2) 80) (v1 + 3) (c + 3) 2) (v1 + 4) (c + 4) 8) (v1 + 5) (c + 5) 1600).1 v1 1)).1 v1 2)).1 v1 3)).1 v1 8)).1 v1 9)) c 10 ((upI (upI (upI (upI (upI (cpA (cpA (cpA (cpA (cpA hp (v1 + 1) (c + 1) 160) (v1 + 2) (c + 2) 80) (v1 + 3) (c + 3) 2) (v1 + 4) (c + 4) 8) (v1 + 5) (c + 5) 1600) c 1 ((cpA (cpA (cpA (cpA (cpA hp (v1 + 1) (c + 1) 160) (v1 + 2) (c + 2) 80) (v1 + 3) (c + 3) 2) (v1 + 4) (c + 4) 8) (v1 + 5) (c + 5) 1600).1 v1 1)) c 2 ((upI (cpA (cpA (cpA (cpA (cpA hp (v1 + 1) (c + 1) 160) (v1 + 2) (c + 2) 80) (v1 + 3) (c + 3) 2) (v1 + 4) (c + 4) 8) (v1 + 5) (c + 5) 1600) c 1 ((cpA (cpA (cpA (cpA (cpA hp (v1 + 1) (c + 1) 160) (v1 + 2) (c + 2) 80) (v1 + 3) (c + 3) 2) (v1 + 4) (c + 4) 8) (v1 + 5) (c + 5) 1600).1 v1 1)).1 v1 2)) c 3 ((upI (upI (cpA (cpA (cpA (cpA (cpA hp (v1 + 1) (c + 1) 160) (v1 + 2) (c + 2) 80) (v1 + 3) (c + 3) 2) (v1 + 4) (c + 4) 8) (v1 + 5) (c + 5) 1600) c 1 ((cpA (cpA (cpA (cpA (cpA hp (v1 + 1) (c + 1) 160) (v1 + 2) (c + 2) 80) (v1 + 3) (c + 3) 2) (v1 + 4) (c + 4) 8) (v1 + 5) (c + 5) 1600).1 v1 1)) c 2 ((upI (cpA (cpA (cpA (cpA (cpA hp (v1 + 1) (c + 1) 160) (v1 + 2) (c + 2) 80) (v1 + 3) (c + 3) 2) (v1 + 4) (c + 4) 8) (v1 + 5) (c + 5) 1600) c 1 ((cpA (cpA (cpA (cpA (cpA hp (v1 + 1) (c + 1) 160) (v1 + 2) (c + 2) 80) (v1 + 3) (c + 3) 2) (v1 + 4) (c + 4) 8) (v1 + 5) (c + 5) 1600).1 v1 1)).1 v1 2)).1 v1 3)) c 8 ((upI (upI (upI (cpA (cpA (cpA (cpA (cpA hp (v1 + 1) (c + 1) 160) (v1 + 2) (c + 2) 80) (v1 + 3) (c + 3) 2) (v1 + 4) (c + 4) 8) (v1 + 5) (c + 5) 1600) c 1 ((cpA (cpA (cpA (cpA (cpA hp (v1 + 1) (c + 1) 160) (v1 + 2) (c + 2) 80) (v1 + 3) (c + 3) 2) (v1 + 4) (c + 4) 8) (v1 + 5) (c + 5) 1600).1 v1 1)) c 2 ((upI (cpA (cpA (cpA (cpA (cpA hp (v1 + 1) (c + 1) 160) (v1 + 2) (c + 2) 80) (v1 + 3) (c + 3) 2) (v1 + 4) (c + 4) 8) (v1 + 5) (c + 5) 1600) c 1 ((cpA (cpA (cpA (cpA (cpA hp (v1 + 1) (c + 1) 160) (v1 + 2) (c + 2) 80) (v1 + 3) (c + 3) 2) (v1 + 4) (c + 4) 8) (v1 + 5) (c + 5) 1600).1 v1 1)).1 v1 2)) c 3 ((upI (upI (cpA (cpA (cpA (cpA (cpA hp (v1 + 1) (c + 1) 160) (v1 + 2) (c + 2) 80) (v1 + 3) (c + 3) 2) (v1 + 4) (c + 4) 8) (v1 + 5) (c + 5) 1600) c 1 ((cpA (cpA (cpA (cpA (cpA hp (v1 + 1) (c + 1) 160) (v1 + 2) (c + 2) 80) (v1 + 3) (c + 3) 2) (v1 + 4) (c + 4) 8) (v1 + 5) (c + 5) 1600).1 v1 1)) c 2 ((upI (cpA (cpA (cpA (cpA (cpA hp (v1 + 1) (c + 1) 160) (v1 + 2) (c + 2) 80) (v1 + 3) (c + 3) 2) (v1 + 4) (c + 4) 8) (v1 + 5) (c + 5) 1600) c 1 ((cpA (cpA (cpA (cpA (cpA hp (v1 + 1) (c + 1) 160) (v1 + 2) (c + 2) 80) (v1 + 3) (c + 3) 2) (v1 + 4) (c + 4) 8) (v1 + 5) (c + 5) 1600).1 v1 1)).1 v1 2)).1 v1 3)).1 v1 8)) c 9 ((upI (upI (upI (upI (cpA (cpA (cpA (cpA (cpA hp (v1 + 1) (c + 1) 160) (v1 + 2) (c + 2) 80) (v1 + 3) (c + 3) 2) (v1 + 4) (c + 4) 8) (v1 + 5) (c + 5) 1600) c 1 ((cpA (cpA (cpA (cpA (cpA hp (v1 + 1) (c + 1) 160) (v1 + 2) (c + 2) 80) (v1 + 3) (c + 3) 2) (v1 + 4) (c + 4) 8) (v1 + 5) (c + 5) 1600).1 v1 1)) c 2 ((upI (cpA (cpA (cpA (cpA (cpA hp (v1 + 1) (c + 1) 160) (v1 + 2) (c + 2) 80) (v1 + 3) (c + 3) 2) (v1 + 4) (c + 4) 8) (v1 + 5) (c + 5) 1600) c 1 ((cpA (cpA (cpA (cpA (cpA hp (v1 + 1) (c + 1) 160) (v1 + 2) (c + 2) 80) (v1 + 3) (c + 3) 2) (v1 + 4) (c + 4) 8) (v1 + 5) (c + 5) 1600).1 v1 1)).1 v1 2)) c 3 ((upI (upI (cpA (cpA (cpA (cpA (cpA hp (v1 + 1) (c + 1) 160) (v1 + 2) (c + 2) 80) (v1 + 3) (c + 3) 2) (v1 + 4) (c + 4) 8) (v1 + 5) (c + 5) 1600) c 1 ((cpA (cpA (cpA (cpA (cpA hp (v1 + 1) (c + 1) 160) (v1 + 2) (c + 2) 80) (v1 + 3) (c + 3) 2) (v1 + 4) (c + 4) 8) (v1 + 5) (c + 5) 1600).1 v1 1)) c 2 ((upI (cpA (cpA (cpA (cpA (cpA hp (v1 + 1) (c + 1) 160) (v1 + 2) (c + 2) 80) (v1 + 3) (c + 3) 2) (v1 + 4) (c + 4) 8) (v1 + 5) (c + 5) 1600) c 1 ((cpA (cpA (cpA (cpA (cpA hp (v1 + 1) (c + 1) 160) (v1 + 2) (c + 2) 80) (v1 + 3) (c + 3) 2) (v1 + 4) (c + 4) 8) (v1 + 5) (c + 5) 1600).1 v1 1)).1 v1 2)).1 v1 3)) c 8 ((upI (upI (upI (cpA (cpA (cpA (cpA (cpA hp (v1 + 1) (c + 1) 160) (v1 + 2) (c + 2) 80) (v1 + 3) (c + 3) 2) (v1 + 4) (c + 4) 8) (v1 + 5) (c + 5) 1600) c 1 ((cpA (cpA (cpA (cpA (cpA hp (v1 + 1) (c + 1) 160) (v1 + 2) (c + 2) 80) (v1 + 3) (c + 3) 2) (v1 + 4) (c + 4) 8) (v1 + 5) (c + 5) 1600).1 v1 1)) c 2 ((upI (cpA (cpA (cpA (cpA (cpA hp (v1 + 1) (c + 1) 160) (v1 + 2) (c + 2) 80) (v1 + 3) (c + 3) 2) (v1 + 4) (c + 4) 8) (v1 + 5) (c + 5) 1600) c 1 ((cpA (cpA (cpA (cpA (cpA hp (v1 + 1) (c + 1) 160) (v1 + 2) (c + 2) 80) (v1 + 3) (c + 3) 2) (v1 + 4) (c + 4) 8) (v1 + 5) (c + 5) 1600).1 v1 1)).1 v1 2)) c 3 ((upI (upI (cpA (cpA (cpA (cpA (cpA hp (v1 + 1) (c + 1) 160) (v1 + 2) (c + 2) 80) (v1 + 3) (c + 3) 2) (v1 + 4) (c + 4) 8) (v1 + 5) (c + 5) 1600) c 1 ((cpA (cpA (cpA (cpA (cpA hp (v1 + 1) (c + 1) 160) (v1 + 2) (c + 2) 80) (v1 + 3) (c + 3) 2) (v1 + 4) (c + 4) 8) (v1 + 5) (c + 5) 1600).1 v1 1)) c 2 ((upI (cpA (cpA (cpA (cpA (cpA hp (v1 + 1) (c + 1) 160) (v1 + 2) (c + 2) 80) (v1 + 3) (c + 3) 2) (v1 + 4) (c + 4) 8) (v1 + 5) (c + 5) 1600) c 1 ((cpA (cpA (cpA (cpA (cpA hp (v1 + 1) (c + 1) 160) (v1 + 2) (c + 2) 80) (v1 + 3) (c + 3) 2) (v1 + 4) (c + 4) 8) (v1 + 5) (c + 5) 1600).1 v1 1)).1 v1 2)).1 v1 3)).1 v1 8)).1 v1 9)).1 v1 10)).1 v1 11)).1 v1 12)) none res
  refine ⟨hv1.1, hS.1, hv1.1, hS.1, hv1.1, hS.1, g1, hv1.1, hS.1, hv1.1, hS.1, hv1.1, hS.1, hv1.1, hS.1, hv1.1, hS.1, ?_⟩
  obtain rfl := Option.some.inj hf
  have hk : (upI (upI (upI (upI (upI (upI (upI (upI (cpA (cpA (cpA (cpA (cpA hp (v1 + 1) (c + 1) 160) (v1 + 2) (c + 2) 80) (v1 + 3) (c + 3) 2) (v1 + 4) (c + 4) 8) (v1 + 5) (c + 5) 1600) c 1 ((cpA (cpA (cpA (cpA (cpA hp (v1 + 1) (c + 1) 160) (v1 + 2) (c + 2) 80) (v1 + 3) (c + 3) 2) (v1 + 4) (c + 4) 8) (v1 + 5) (c + 5) 1600).1 v1 1)) c 2 ((upI (cpA (cpA (cpA (cpA (cpA hp (v1 + 1) (c + 1) 160) (v1 + 2) (c + 2) 80) (v1 + 3) (c + 3) 2) (v1 + 4) (c + 4) 8) (v1 + 5) (c + 5) 1600) c 1 ((cpA (cpA (cpA (cpA (cpA hp (v1 + 1) (c + 1) 160) (v1 + 2) (c + 2) 80) (v1 + 3) (c + 3) 2) (v1 + 4) (c + 4) 8) (v1 + 5) (c + 5) 1600).1 v1 1)).1 v1 2)) c 3 ((upI (upI (cpA (cpA (cpA (cpA (cpA hp (v1 + 1) (c + 1) 160) (v1 + 2) (c + 2) 80) (v1 + 3) (c + 3) 2) (v1 + 4) (c + 4) 8) (v1 + 5) (c + 5) 1600) c 1 ((cpA (cpA (cpA (cpA (cpA hp (v1 + 1) (c + 1) 160) (v1 + 2) (c + 2) 80) (v1 + 3) (c + 3) 2) (v1 + 4) (c + 4) 8) (v1 + 5) (c + 5) 1600).1 v1 1)) c 2 ((upI (cpA (cpA (cpA (cpA (cpA hp (v1 + 1) (c + 1) 160) (v1 + 2) (c + 2) 80) (v1 + 3) (c + 3) 2) (v1 + 4) (c + 4) 8) (v1 + 5) (c + 5) 1600) c 1 ((cpA (cpA (cpA (cpA (cpA hp (v1 + 1) (c + 1) 160) (v1 + 2) (c + 2) 80) (v1 + 3) (c + 3) 2) (v1 + 4) (c + 4) 8) (v1 + 5) (c + 5) 1600).1 v1 1)).1 v1 2)).1 v1 3)) c 8 ((upI (upI (upI (cpA (cpA (cpA (cpA (cpA hp (v1 + 1) (c + 1) 160) (v1 + 2) (c + 2) 80) (v1 + 3) (c + 3) 2) (v1 + 4) (c + 4) 8) (v1 + 5) (c + 5) 1600) c 1 ((cpA (cpA (cpA (cpA (cpA hp (v1 + 1) (c + 1) 160) (v1 + 2) (c + 2) 80) (v1 + 3) (c + 3) 2) (v1 + 4) (c + 4) 8) (v1 + 5) (c + 5) 1600).1 v1 1)) c 2 ((upI (cpA (cpA (cpA (cpA (cpA hp (v1 + 1) (c + 1) 160) (v1 + 2) (c + 2) 80) (v1 + 3) (c + 3) 2) (v1 + 4) (c + 4) 8) (v1 + 5) (c + 5) 1600) c 1 ((cpA (cpA (cpA (cpA (cpA hp (v1 + 1) (c + 1) 160) (v1 + 2) (c + 2) 80) (v1 + 3) (c + 3) 2) (v1 + 4) (c + 4) 8) (v1 + 5) (c + 5) 1600).1 v1 1)).1 v1 2)) c 3 ((upI (upI (cpA (cpA (cpA (cpA (cpA hp (v1 + 1) (c + 1) 160) (v1 + 2) (c + 2) 80) (v1 + 3) (c + 3) 2) (v1 + 4) (c + 4) 8) (v1 + 5) (c + 5) 1600) c 1 ((cpA (cpA (cpA (cpA (cpA hp (v1 + 1) (c + 1) 160) (v1 + 2) (c + 2) 80) (v1 + 3) (c + 3) 2) (v1 + 4) (c + 4) 8) (v1 + 5) (c + 5) 1600).1 v1 1)) c 2 ((upI (cpA (cpA (cpA (cpA (cpA hp (v1 + 1) (c + 1) 160) (v1 + 2) (c + 2) 80) (v1 + 3) (c + 3) 2) (v1 + 4) (c + 4) 8) (v1 + 5) (c + 5) 1600) c 1 ((cpA (cpA (cpA (cpA (cpA hp (v1 + 1) (c + 1) 160) (v1 + 2) (c + 2) 80) (v1 + 3) (c + 3) 2) (v1 + 4) (c + 4) 8) (v1 + 5) (c + 5) 1600).1 v1 1)).1 v1 2)).1 v1 3)).1 v1 8)) c 9 ((upI (upI (upI (upI (cpA (cpA (cpA (cpA (cpA hp (v1 + 1) (c + 1) 160) (v1 + 2) (c + 2) 80) (v1 + 3) (c + 3) 2) (v1 + 4) (c + 4) 8) (v1 + 5) (c + 5) 1600) c 1 ((cpA (cpA (cpA (cpA (cpA hp (v1 + 1) (c + 1) 160) (v1 + 2) (c + 2) 80) (v1 + 3) (c + 3) 2) (v1 + 4) (c + 4) 8) (v1 + 5) (c + 5) 1600).1 v1 1)) c 2 ((upI (cpA (cpA (cpA (cpA (cpA hp (v1 + 1) (c + 1) 160) (v1 + 2) (c + 2) 80) (v1 + 3) (c + 3) 2) (v1 + 4) (c + 4) 8) (v1 + 5) (c + 5) 1600) c 1 ((cpA (cpA (cpA (cpA (cpA hp (v1 + 1) (c + 1) 160) (v1 + 2) (c + 2) 80) (v1 + 3) (c + 3) 2) (v1 + 4) (c + 4) 8) (v1 + 5) (c + 5) 1600).1 v1 1)).1 v1 2)) c 3 ((upI (upI (cpA (cpA (cpA (cpA (cpA hp (v1 + 1) (c + 1) 160) (v1 + 2) (c + 2) 80) (v1 + 3) (c + 3) 2) (v1 + 4) (c + 4) 8) (v1 + 5) (c + 5) 1600) c 1 ((cpA (cpA (cpA (cpA (cpA hp (v1 + 1) (c + 1) 160) (v1 + 2) (c + 2) 80) (v1 + 3) (c + 3) 2) (v1 + 4) (c + 4) 8) (v1 + 5) (c + 5) 1600).1 v1 1)) c 2 ((upI (cpA (cpA (cpA (cpA (cpA hp (v1 + 1) (c + 1) 160) (v1 + 2) (c + 2) 80) (v1 + 3) (c + 3) 2) (v1 + 4) (c + 4) 8) (v1 + 5) (c + 5) 1600) c 1 ((cpA (cpA (cpA (cpA (cpA hp (v1 + 1) (c + 1) 160) (v1 + 2) (c + 2) 80) (v1 + 3) (c + 3) 2) (v1 + 4) (c + 4) 8) (v1 + 5) (c + 5) 1600).1 v1 1)).1 v1 2)).1 v1 3)) c 8 ((upI (upI (upI (cpA (cpA (cpA (cpA (cpA hp (v1 + 1) (c + 1) 160) (v1 + 2) (c + 2) 80) (v1 + 3) (c + 3) 2) (v1 + 4) (c + 4) 8) (v1 + 5) (c + 5) 1600) c 1 ((cpA (cpA (cpA (cpA (cpA hp (v1 + 1) (c + 1) 160) (v1 + 2) (c + 2) 80) (v1 + 3) (c + 3) 2) (v1 + 4) (c + 4) 8) (v1 + 5) (c + 5) 1600).1 v1 1)) c 2 ((upI (cpA (cpA (cpA (cpA (cpA hp (v1 + 1) (c + 1) 160) (v1 + 2) (c + 2) 80) (v1 + 3) (c + 3) 2) (v1 + 4) (c + 4) 8) (v1 + 5) (c + 5) 1600) c 1 ((cpA (cpA (cpA (cpA (cpA hp (v1 + 1) (c + 1) 160) (v1 + 2) (c + 2) 80) (v1 + 3) (c + 3) 2) (v1 + 4) (c + 4) 8) (v1 + 5) (c + 5) 1600).1 v1 1)).1 v1 2)) c 3 ((upI (upI (cpA (cpA (cpA (cpA (cpA hp (v1 + 1) (c + 1) 160) (v1 + 2) (c + 2) 80) (v1 + 3) (c + 3) 2) (v1 + 4) (c + 4) 8) (v1 + 5) (c + 5) 1600) c 1 ((cpA (cpA (cpA (cpA (cpA hp (v1 + 1) (c + 1) 160) (v1 + 2) (c + 2) 80) (v1 + 3) (c + 3) 2) (v1 + 4) (c + 4) 8) (v1 + 5) (c + 5) 1600).1 v1 1)) c 2 ((upI (cpA (cpA (cpA (cpA (cpA hp (v1 + 1) (c + 1) 160) (v1 + 2) (c + 2) 80) (v1 + 3) (c + 3) 2) (v1 + 4) (c + 4) 8) (v1 + 5) (c + 5) 1600) c 1 ((cpA (cpA (cpA (cpA (cpA hp (v1 + 1) (c + 1) 160) (v1 + 2) (c + 2) 80) (v1 + 3) (c + 3) 2) (v1 + 4) (c + 4) 8) (v1 + 5) (c + 5) 1600).1 v1 1)).1 v1 2)).1 v1 3)).1 v1 8)).1 v1 9)) c 10 ((upI (upI (upI (upI (upI (cpA (cpA (cpA (cpA (cpA hp (v1 + 1) (c + 1) 160) (v1 + 2) (c + 2) 80) (v1 + 3) (c + 3) 2) (v1 + 4) (c + 4) 8) (v1 + 5) (c + 5) 1600) c 1 ((cpA (cpA (cpA (cpA (cpA hp (v1 + 1) (c + 1) 160) (v1 + 2) (c + 2) 80) (v1 + 3) (c + 3) 2) (v1 + 4) (c + 4) 8) (v1 + 5) (c + 5) 1600).1 v1 1)) c 2 ((upI (cpA (cpA (cpA (cpA (cpA hp (v1 + 1) (c + 1) 160) (v1 + 2) (c + 2) 80) (v1 + 3) (c + 3) 2) (v1 + 4) (c + 4) 8) (v1 + 5) (c + 5) 1600) c 1 ((cpA (cpA (cpA (cpA (cpA hp (v1 + 1) (c + 1) 160) (v1 + 2) (c + 2) 80) (v1 + 3) (c + 3) 2) (v1 + 4) (c + 4) 8) (v1 + 5) (c + 5) 1600).1 v1 1)).1 v1 2)) c 3 ((upI (upI (cpA (cpA (cpA (cpA (cpA hp (v1 + 1) (c + 1) 160) (v1 + 2) (c + 2) 80) (v1 + 3) (c + 3) 2) (v1 + 4) (c + 4) 8) (v1 + 5) (c + 5) 1600) c 1 ((cpA (cpA (cpA (cpA (cpA hp (v1 + 1) (c + 1) 160) (v1 + 2) (c + 2) 80) (v1 + 3) (c + 3) 2) (v1 + 4) (c + 4) 8) (v1 + 5) (c + 5) 1600).1 v1 1)) c 2 ((upI (cpA (cpA (cpA (cpA (cpA hp (v1 + 1) (c + 1) 160) (v1 + 2) (c + 2) 80) (v1 + 3) (c + 3) 2) (v1 + 4) (c + 4) 8) (v1 + 5) (c + 5) 1600) c 1 ((cpA (cpA (cpA (cpA (cpA hp (v1 + 1) (c + 1) 160) (v1 + 2) (c + 2) 80) (v1 + 3) (c + 3) 2) (v1 + 4) (c + 4) 8) (v1 + 5) (c + 5) 1600).1 v1 1)).1 v1 2)).1 v1 3)) c 8 ((upI (upI (upI (cpA (cpA (cpA (cpA (cpA hp (v1 + 1) (c + 1) 160) (v1 + 2) (c + 2) 80) (v1 + 3) (c + 3) 2) (v1 + 4) (c + 4) 8) (v1 + 5) (c + 5) 1600) c 1 ((cpA (cpA (cpA (cpA (cpA hp (v1 + 1) (c + 1) 160) (v1 + 2) (c + 2) 80) (v1 + 3) (c + 3) 2) (v1 + 4) (c + 4) 8) (v1 + 5) (c + 5) 1600).1 v1 1)) c 2 ((upI (cpA (cpA (cpA (cpA (cpA hp (v1 + 1) (c + 1) 160) (v1 + 2) (c + 2) 80) (v1 + 3) (c + 3) 2) (v1 + 4) (c + 4) 8) (v1 + 5) (c + 5) 1600) c 1 ((cpA (cpA (cpA (cpA (cpA hp (v1 + 1) (c + 1) 160) (v1 + 2) (c + 2) 80) (v1 + 3) (c + 3) 2) (v1 + 4) (c + 4) 8) (v1 + 5) (c + 5) 1600).1 v1 1)).1 v1 2)) c 3 ((upI (upI (cpA (cpA (cpA (cpA (cpA hp (v1 + 1) (c + 1) 160) (v1 + 2) (c + 2) 80) (v1 + 3) (c + 3) 2) (v1 + 4) (c + 4) 8) (v1 + 5) (c + 5) 1600) c 1 ((cpA (cpA (cpA (cpA (cpA hp (v1 + 1) (c + 1) 160) (v1 + 2) (c + 2) 80) (v1 + 3) (c + 3) 2) (v1 + 4) (c + 4) 8) (v1 + 5) (c + 5) 1600).1 v1 1)) c 2 ((upI (cpA (cpA (cpA (cpA (cpA hp (v1 + 1) (c + 1) 160) (v1 + 2) (c + 2) 80) (v1 + 3) (c + 3) 2) (v1 + 4) (c + 4) 8) (v1 + 5) (c + 5) 1600) c 1 ((cpA (cpA (cpA (cpA (cpA hp (v1 + 1) (c + 1) 160) (v1 + 2) (c + 2) 80) (v1 + 3) (c + 3) 2) (v1 + 4) (c + 4) 8) (v1 + 5) (c + 5) 1600).1 v1 1)).1 v1 2)).1 v1 3)).1 v1 8)) c 9 ((upI (upI (upI (upI (cpA (cpA (cpA (cpA (cpA hp (v1 + 1) (c + 1) 160) (v1 + 2) (c + 2) 80) (v1 + 3) (c + 3) 2) (v1 + 4) (c + 4) 8) (v1 + 5) (c + 5) 1600) c 1 ((cpA (cpA (cpA (cpA (cpA hp (v1 + 1) (c + 1) 160) (v1 + 2) (c + 2) 80) (v1 + 3) (c + 3) 2) (v1 + 4) (c + 4) 8) (v1 + 5) (c + 5) 1600).1 v1 1)) c 2 ((upI (cpA (cpA (cpA (cpA (cpA hp (v1 + 1) (c + 1) 160) (v1 + 2) (c + 2) 80) (v1 + 3) (c + 3) 2) (v1 + 4) (c + 4) 8) (v1 + 5) (c + 5) 1600) c 1 ((cpA (cpA (cpA (cpA (cpA hp (v1 + 1) (c + 1) 160) (v1 + 2) (c + 2) 80) (v1 + 3) (c + 3) 2) (v1 + 4) (c + 4) 8) (v1 + 5) (c + 5) 1600).1 v1 1)).1 v1 2)) c 3 ((upI (upI (cpA (cpA (cpA (cpA (cpA hp (v1 + 1) (c + 1) 160) (v1 + 2) (c + 2) 80) (v1 + 3) (c + 3) 2) (v1 + 4) (c + 4) 8) (v1 + 5) (c + 5) 1600) c 1 ((cpA (cpA (cpA (cpA (cpA hp (v1 + 1) (c + 1) 160) (v1 + 2) (c + 2) 80) (v1 + 3) (c + 3) 2) (v1 + 4) (c + 4) 8) (v1 + 5) (c + 5) 1600).1 v1 1)) c 2 ((upI (cpA (cpA (cpA (cpA (cpA hp (v1 + 1) (c + 1) 160) (v1 + 2) (c + 2) 80) (v1 + 3) (c + 3) 2) (v1 + 4) (c + 4) 8) (v1 + 5) (c + 5) 1600) c 1 ((cpA (cpA (cpA (cpA (cpA hp (v1 + 1) (c + 1) 160) (v1 + 2) (c + 2) 80) (v1 + 3) (c + 3) 2) (v1 + 4) (c + 4) 8) (v1 + 5) (c + 5) 1600).1 v1 1)).1 v1 2)).1 v1 3)) c 8 ((upI (upI (upI (cpA (cpA (cpA (cpA (cpA hp (v1 + 1) (c + 1) 160) (v1 + 2) (c + 2) 80) (v1 + 3) (c + 3) 2) (v1 + 4) (c + 4) 8) (v1 + 5) (c + 5) 1600) c 1 ((cpA (cpA (cpA (cpA (cpA hp (v1 + 1) (c + 1) 160) (v1 + 2) (c + 2) 80) (v1 + 3) (c + 3) 2) (v1 + 4) (c + 4) 8) (v1 + 5) (c + 5) 1600).1 v1 1)) c 2 ((upI (cpA (cpA (cpA (cpA (cpA hp (v1 + 1) (c + 1) 160) (v1 + 2) (c + 2) 80) (v1 + 3) (c + 3) 2) (v1 + 4) (c + 4) 8) (v1 + 5) (c + 5) 1600) c 1 ((cpA (cpA (cpA (cpA (cpA hp (v1 + 1) (c + 1) 160) (v1 + 2) (c + 2) 80) (v1 + 3) (c + 3) 2) (v1 + 4) (c + 4) 8) (v1 + 5) (c + 5) 1600).1 v1 1)).1 v1 2)) c 3 ((upI (upI (cpA (cpA (cpA (cpA (cpA hp (v1 + 1) (c + 1) 160) (v1 + 2) (c + 2) 80) (v1 + 3) (c + 3) 2) (v1 + 4) (c + 4) 8) (v1 + 5) (c + 5) 1600) c 1 ((cpA (cpA (cpA (cpA (cpA hp (v1 + 1) (c + 1) 160) (v1 + 2) (c + 2) 80) (v1 + 3) (c + 3) 2) (v1 + 4) (c + 4) 8) (v1 + 5) (c + 5) 1600).1 v1 1)) c 2 ((upI (cpA (cpA (cpA (cpA (cpA hp (v1 + 1) (c + 1) 160) (v1 + 2) (c + 2) 80) (v1 + 3) (c + 3) 2) (v1 + 4) (c + 4) 8) (v1 + 5) (c + 5) 1600) c 1 ((cpA (cpA (cpA (cpA (cpA hp (v1 + 1) (c + 1) 160) (v1 + 2) (c + 2) 80) (v1 + 3) (c + 3) 2) (v1 + 4) (c + 4) 8) (v1 + 5) (c + 5) 1600).1 v1 1)).1 v1 2)).1 v1 3)).1 v1 8)).1 v1 9)).1 v1 10)) c 11 ((upI (upI (upI (upI (upI (upI (cpA (cpA (cpA (cpA (cpA hp (v1 + 1) (c + 1) 160) (v1 + 2) (c + 2) 80) (v1 + 3) (c + 3) 2) (v1 + 4) (c + 4) 8) (v1 + 5) (c + 5) 1600) c 1 ((cpA (cpA (cpA (cpA (cpA hp (v1 + 1) (c + 1) 160) (v1 + 2) (c + 2) 80) (v1 + 3) (c + 3) 2) (v1 + 4) (c + 4) 8) (v1 + 5) (c + 5) 1600).1 v1 1)) c 2 ((upI (cpA (cpA (cpA (cpA (cpA hp (v1 + 1) (c + 1) 160) (v1 + 2) (c + 2) 80) (v1 + 3) (c + 3) 2) (v1 + 4) (c + 4) 8) (v1 + 5) (c + 5) 1600) c 1 ((cpA (cpA (cpA (cpA (cpA hp (v1 + 1) (c + 1) 160) (v1 + 2) (c + 2) 80) (v1 + 3) (c + 3) 2) (v1 + 4) (c + 4) 8) (v1 + 5) (c + 5) 1600).1 v1 1)).1 v1 2)) c 3 ((upI (upI (cpA (cpA (cpA (cpA (cpA hp (v1 + 1) (c + 1) 160) (v1 + 2) (c + 2) 80) (v1 + 3) (c + 3) 2) (v1 + 4) (c + 4) 8) (v1 + 5) (c + 5) 1600) c 1 ((cpA (cpA (cpA (cpA (cpA hp (v1 + 1) (c + 1) 160) (v1 + 2) (c + 2) 80) (v1 + 3) (c + 3) 2) (v1 + 4) (c + 4) 8) (v1 + 5) (c + 5) 1600).1 v1 1)) c 2 ((upI (cpA (cpA (cpA (cpA (cpA hp (v1 + 1) (c + 1) 160) (v1 + 2) (c + 2) 80) (v1 + 3) (c + 3) 2) (v1 + 4) (c + 4) 8) (v1 + 5) (c + 5) 1600) c 1 ((cpA (cpA (cpA (cpA (cpA hp (v1 + 1) (c + 1) 160) (v1 + 2) (c + 2) 80) (v1 + 3) (c + 3) 2) (v1 + 4) (c + 4) 8) (v1 + 5) (c + 5) 1600).1 v1 1)).1 v1 2)).1 v1 3)) c 8 ((upI (upI (upI (cpA (cpA (cpA (cpA (cpA hp (v1 + 1) (c + 1) 160) (v1 + 2) (c + 2) 80) (v1 + 3) (c + 3) 2) (v1 + 4) (c + 4) 8) (v1 + 5) (c + 5) 1600) c 1 ((cpA (cpA (cpA (cpA (cpA hp (v1 + 1) (c + 1) 160) (v1 + 2) (c + 2) 80) (v1 + 3) (c + 3) 2) (v1 + 4) (c + 4) 8) (v1 + 5) (c + 5) 1600).1 v1 1)) c 2 ((upI (cpA (cpA (cpA (cpA (cpA hp (v1 + 1) (c + 1) 160) (v1 + 2) (c + 2) 80) (v1 + 3) (c + 3) 2) (v1 + 4) (c + 4) 8) (v1 + 5) (c + 5) 1600) c 1 ((cpA (cpA (cpA (cpA (cpA hp (v1 + 1) (c + 1) 160) (v1 + 2) (c + 2) 80) (v1 + 3) (c + 3) 2) (v1 + 4) (c + 4) 8) (v1 + 5) (c + 5) 1600).1 v1 1)).1 v1 2)) c 3 ((upI (upI (cpA (cpA (cpA (cpA (cpA hp (v1 + 1) (c + 1) 160) (v1 + 2) (c + 2) 80) (v1 + 3) (c + 3) 2) (v1 + 4) (c + 4) 8) (v1 + 5) (c + 5) 1600) c 1 ((cpA (cpA (cpA (cpA (cpA hp (v1 + 1) (c + 1) 160) (v1 + 2) (c + 2) 80) (v1 + 3) (c + 3) 2) (v1 + 4) (c + 4) 8) (v1 + 5) (c + 5) 1600).1 v1 1)) c 2 ((upI (cpA (cpA (cpA (cpA (cpA hp (v1 + 1) (c + 1) 160) (v1 + 2) (c + 2) 80) (v1 + 3) (c + 3) 2) (v1 + 4) (c + 4) 8) (v1 + 5) (c + 5) 1600) c 1 ((cpA (cpA (cpA (cpA (cpA hp (v1 + 1) (c + 1) 160) (v1 + 2) (c + 2) 80) (v1 + 3) (c + 3) 2) (v1 + 4) (c + 4) 8) (v1 + 5) (c + 5) 1600).1 v1 1)).1 v1 2)).1 v1 3)).1 v1 8)) c 9 ((upI (upI (upI (upI (cpA (cpA (cpA (cpA (cpA hp (v1 + 1) (c + 1) 160) (v1 + 2) (c + 2) 80) (v1 + 3) (c + 3) 2) (v1 + 4) (c + 4) 8) (v1 + 5) (c + 5) 1600) c 1 ((cpA (cpA (cpA (cpA (cpA hp (v1 + 1) (c + 1) 160) (v1 + 2) (c + 2) 80) (v1 + 3) (c + 3) 2) (v1 + 4) (c + 4) 8) (v1 + 5) (c + 5) 1600).1 v1 1)) c 2 ((upI (cpA (cpA (cpA (cpA (cpA hp (v1 + 1) (c + 1) 160) (v1 + 2) (c + 2) 80) (v1 + 3) (c + 3) 2) (v1 + 4) (c + 4) 8) (v1 + 5) (c + 5) 1600) c 1 ((cpA (cpA (cpA (cpA (cpA hp (v1 + 1) (c + 1) 160) (v1 + 2) (c + 2) 80) (v1 + 3) (c + 3) 2) (v1 + 4) (c + 4) 8) (v1 + 5) (c + 5) 1600).1 v1 1)).1 v1 2)) c 3 ((upI (upI (cpA (cpA (cpA (cpA (cpA hp (v1 + 1) (c + 1) 160) (v1 + 2) (c + 2) 80) (v1 + 3) (c + 3) 2) (v1 + 4) (c + 4) 8) (v1 + 5) (c + 5) 1600) c 1 ((cpA (cpA (cpA (cpA (cpA hp (v1 + 1) (c + 1) 160) (v1 + 2) (c + 2) 80) (v1 + 3) (c + 3) 2) (v1 + 4) (c + 4) 8) (v1 + 5) (c + 5) 1600).1 v1 1)) c 2 ((upI (cpA (cpA (cpA (cpA (cpA hp (v1 + 1) (c + 1) 160) (v1 + 2) (c + 2) 80) (v1 + 3) (c + 3) 2) (v1 + 4) (c + 4) 8) (v1 + 5) (c + 5) 1600) c 1 ((cpA (cpA (cpA (cpA (cpA hp (v1 + 1) (c + 1) 160) (v1 + 2) (c + 2) 80) (v1 + 3) (c + 3) 2) (v1 + 4) (c + 4) 8) (v1 + 5) (c + 5) 1600).1 v1 1)).1 v1 2)).1 v1 3)) c 8 ((upI (upI (upI (cpA (cpA (cpA (cpA (cpA hp (v1 + 1) (c + 1) 160) (v1 + 2) (c + 2) 80) (v1 + 3) (c + 3) 2) (v1 + 4) (c + 4) 8) (v1 + 5) (c + 5) 1600) c 1 ((cpA (cpA (cpA (cpA (cpA hp (v1 + 1) (c + 1) 160) (v1 + 2) (c + 2) 80) (v1 + 3) (c + 3) 2) (v1 + 4) (c + 4) 8) (v1 + 5) (c + 5) 1600).1 v1 1)) c 2 ((upI (cpA (cpA (cpA (cpA (cpA hp (v1 + 1) (c + 1) 160) (v1 + 2) (c + 2) 80) (v1 + 3) (c + 3) 2) (v1 + 4) (c + 4) 8) (v1 + 5) (c + 5) 1600) c 1 ((cpA (cpA (cpA (cpA (cpA hp (v1 + 1) (c + 1) 160) (v1 + 2) (c + 2) 80) (v1 + 3) (c + 3) 2) (v1 + 4) (c + 4) 8) (v1 + 5) (c + 5) 1600).1 v1 1)).1 v1 2)) c 3 ((upI (upI (cpA (cpA (cpA (cpA (cpA hp (v1 + 1) (c + 1) 160) (v1 + 2) (c + 2) 80) (v1 + 3) (c + 3) 2) (v1 + 4) (c + 4) 8) (v1 + 5) (c + 5) 1600) c 1 ((cpA (cpA (cpA (cpA (cpA hp (v1 + 1) (c + 1) 160) (v1 + 2) (c + 2) 80) (v1 + 3) (c + 3) 2) (v1 + 4) (c + 4) 8) (v1 + 5) (c + 5) 1600).1 v1 1)) c 2 ((upI (cpA (cpA (cpA (cpA (cpA hp (v1 + 1) (c + 1) 160) (v1 + 2) (c + 2) 80) (v1 + 3) (c + 3) 2) (v1 + 4) (c + 4) 8) (v1 + 5) (c + 5) 1600) c 1 ((cpA (cpA (cpA (cpA (cpA hp (v1 + 1) (c + 1) 160) (v1 + 2) (c + 2) 80) (v1 + 3) (c + 3) 2) (v1 + 4) (c + 4) 8) (v1 + 5) (c + 5) 1600).1 v1 1)).1 v1 2)).1 v1 3)).1 v1 8)).1 v1 9)) c 10 ((upI (upI (upI (upI (upI (cpA (cpA (cpA (cpA (cpA hp (v1 + 1) (c + 1) 160) (v1 + 2) (c + 2) 80) (v1 + 3) (c + 3) 2) (v1 + 4) (c + 4) 8) (v1 + 5) (c + 5) 1600) c 1 ((cpA (cpA (cpA (cpA (cpA hp (v1 + 1) (c + 1) 160) (v1 + 2) (c + 2) 80) (v1 + 3) (c + 3) 2) (v1 + 4) (c + 4) 8) (v1 + 5) (c + 5) 1600).1 v1 1)) c 2 ((upI (cpA (cpA (cpA (cpA (cpA hp (v1 + 1) (c + 1) 160) (v1 + 2) (c + 2) 80) (v1 + 3) (c + 3) 2) (v1 + 4) (c + 4) 8) (v1 + 5) (c + 5) 1600) c 1 ((cpA (cpA (cpA (cpA (cpA hp (v1 + 1) (c + 1) 160) (v1 + 2) (c + 2) 80) (v1 + 3) (c + 3) 2) (v1 + 4) (c + 4) 8) (v1 + 5) (c + 5) 1600).1 v1 1)).1 v1 2)) c 3 ((upI (upI (cpA (cpA (cpA (cpA (cpA hp (v1 + 1) (c + 1) 160) (v1 + 2) (c + 2) 80) (v1 + 3) (c + 3) 2) (v1 + 4) (c + 4) 8) (v1 + 5) (c + 5) 1600) c 1 ((cpA (cpA (cpA (cpA (cpA hp (v1 + 1) (c + 1) 160) (v1 + 2) (c + 2) 80) (v1 + 3) (c + 3) 2) (v1 + 4) (c + 4) 8) (v1 + 5) (c + 5) 1600).1 v1 1)) c 2 ((upI (cpA (cpA (cpA (cpA (cpA hp (v1 + 1) (c + 1) 160) (v1 + 2) (c + 2) 80) (v1 + 3) (c + 3) 2) (v1 + 4) (c + 4) 8) (v1 + 5) (c + 5) 1600) c 1 ((cpA (cpA (cpA (cpA (cpA hp (v1 + 1) (c + 1) 160) (v1 + 2) (c + 2) 80) (v1 + 3) (c + 3) 2) (v1 + 4) (c + 4) 8) (v1 + 5) (c + 5) 1600).1 v1 1)).1 v1 2)).1 v1 3)) c 8 ((upI (upI (upI (cpA (cpA (cpA (cpA (cpA hp (v1 + 1) (c + 1) 160) (v1 + 2) (c + 2) 80) (v1 + 3) (c + 3) 2) (v1 + 4) (c + 4) 8) (v1 + 5) (c + 5) 1600) c 1 ((cpA (cpA (cpA (cpA (cpA hp (v1 + 1) (c + 1) 160) (v1 + 2) (c + 2) 80) (v1 + 3) (c + 3) 2) (v1 + 4) (c + 4) 8) (v1 + 5) (c + 5) 1600).1 v1 1)) c 2 ((upI (cpA (cpA (cpA (cpA (cpA hp (v1 + 1) (c + 1) 160) (v1 + 2) (c + 2) 80) (v1 + 3) (c + 3) 2) (v1 + 4) (c + 4) 8) (v1 + 5) (c + 5) 1600) c 1 ((cpA (cpA (cpA (cpA (cpA hp (v1 + 1) (c + 1) 160) (v1 + 2) (c + 2) 80) (v1 + 3) (c + 3) 2) (v1 + 4) (c + 4) 8) (v1 + 5) (c + 5) 1600).1 v1 1)).1 v1 2)) c 3 ((upI (upI (cpA (cpA (cpA (cpA (cpA hp (v1 + 1) (c + 1) 160) (v1 + 2) (c + 2) 80) (v1 + 3) (c + 3) 2) (v1 + 4) (c + 4) 8) (v1 + 5) (c + 5) 1600) c 1 ((cpA (cpA (cpA (cpA (cpA hp (v1 + 1) (c + 1) 160) (v1 + 2) (c + 2) 80) (v1 + 3) (c + 3) 2) (v1 + 4) (c + 4) 8) (v1 + 5) (c + 5) 1600).1 v1 1)) c 2 ((upI (cpA (cpA (cpA (cpA (cpA hp (v1 + 1) (c + 1) 160) (v1 + 2) (c + 2) 80) (v1 + 3) (c + 3) 2) (v1 + 4) (c + 4) 8) (v1 + 5) (c + 5) 1600) c 1 ((cpA (cpA (cpA (cpA (cpA hp (v1 + 1) (c + 1) 160) (v1 + 2) (c + 2) 80) (v1 + 3) (c + 3) 2) (v1 + 4) (c + 4) 8) (v1 + 5) (c + 5) 1600).1 v1 1)).1 v1 2)).1 v1 3)).1 v1 8)) c 9 ((upI (upI (upI (upI (cpA (cpA (cpA (cpA (cpA hp (v1 + 1) (c + 1) 160) (v1 + 2) (c + 2) 80) (v1 + 3) (c + 3) 2) (v1 + 4) (c + 4) 8) (v1 + 5) (c + 5) 1600) c 1 ((cpA (cpA (cpA (cpA (cpA hp (v1 + 1) (c + 1) 160) (v1 + 2) (c + 2) 80) (v1 + 3) (c + 3) 2) (v1 + 4) (c + 4) 8) (v1 + 5) (c + 5) 1600).1 v1 1)) c 2 ((upI (cpA (cpA (cpA (cpA (cpA hp (v1 + 1) (c + 1) 160) (v1 + 2) (c + 2) 80) (v1 + 3) (c + 3) 2) (v1 + 4) (c + 4) 8) (v1 + 5) (c + 5) 1600) c 1 ((cpA (cpA (cpA (cpA (cpA hp (v1 + 1) (c + 1) 160) (v1 + 2) (c + 2) 80) (v1 + 3) (c + 3) 2) (v1 + 4) (c + 4) 8) (v1 + 5) (c + 5) 1600).1 v1 1)).1 v1 2)) c 3 ((upI (upI (cpA (cpA (cpA (cpA (cpA hp (v1 + 1) (c + 1) 160) (v1 + 2) (c + 2) 80) (v1 + 3) (c + 3) 2) (v1 + 4) (c + 4) 8) (v1 + 5) (c + 5) 1600) c 1 ((cpA (cpA (cpA (cpA (cpA hp (v1 + 1) (c + 1) 160) (v1 + 2) (c + 2) 80) (v1 + 3) (c + 3) 2) (v1 + 4) (c + 4) 8) (v1 + 5) (c + 5) 1600).1 v1 1)) c 2 ((upI (cpA (cpA (cpA (cpA (cpA hp (v1 + 1) (c + 1) 160) (v1 + 2) (c + 2) 80) (v1 + 3) (c + 3) 2) (v1 + 4) (c + 4) 8) (v1 + 5) (c + 5) 1600) c 1 ((cpA (cpA (cpA (cpA (cpA hp (v1 + 1) (c + 1) 160) (v1 + 2) (c + 2) 80) (v1 + 3) (c + 3) 2) (v1 + 4) (c + 4) 8) (v1 + 5) (c + 5) 1600).1 v1 1)).1 v1 2)).1 v1 3)) c 8 ((upI (upI (upI (cpA (cpA (cpA (cpA (cpA hp (v1 + 1) (c + 1) 160) (v1 + 2) (c + 2) 80) (v1 + 3) (c + 3) 2) (v1 + 4) (c + 4) 8) (v1 + 5) (c + 5) 1600) c 1 ((cpA (cpA (cpA (cpA (cpA hp (v1 + 1) (c + 1) 160) (v1 + 2) (c + 2) 80) (v1 + 3) (c + 3) 2) (v1 + 4) (c + 4) 8) (v1 + 5) (c + 5) 1600).1 v1 1)) c 2 ((upI (cpA (cpA (cpA (cpA (cpA hp (v1 + 1) (c + 1) 160) (v1 + 2) (c + 2) 80) (v1 + 3) (c + 3) 2) (v1 + 4) (c + 4) 8) (v1 + 5) (c + 5) 1600) c 1 ((cpA (cpA (cpA (cpA (cpA hp (v1 + 1) (c + 1) 160) (v1 + 2) (c + 2) 80) (v1 + 3) (c + 3) 2) (v1 + 4) (c + 4) 8) (v1 + 5) (c + 5) 1600).1 v1 1)).1 v1 2)) c 3 ((upI (upI (cpA (cpA (cpA (cpA (cpA hp (v1 + 1) (c + 1) 160) (v1 + 2) (c + 2) 80) (v1 + 3) (c + 3) 2) (v1 + 4) (c + 4) 8) (v1 + 5) (c + 5) 1600) c 1 ((cpA (cpA (cpA (cpA (cpA hp (v1 + 1) (c + 1) 160) (v1 + 2) (c + 2) 80) (v1 + 3) (c + 3) 2) (v1 + 4) (c + 4) 8) (v1 + 5) (c + 5) 1600).1 v1 1)) c 2 ((upI (cpA (cpA (cpA (cpA (cpA hp (v1 + 1) (c + 1) 160) (v1 + 2) (c + 2) 80) (v1 + 3) (c + 3) 2) (v1 + 4) (c + 4) 8) (v1 + 5) (c + 5) 1600) c 1 ((cpA (cpA (cpA (cpA (cpA hp (v1 + 1) (c + 1) 160) (v1 + 2) (c + 2) 80) (v1 + 3) (c + 3) 2) (v1 + 4) (c + 4) 8) (v1 + 5) (c + 5) 1600).1 v1 1)).1 v1 2)).1 v1 3)).1 v1 8)).1 v1 9)).1 v1 10)).1 v1 11)) c 12 ((upI (upI (upI (upI (upI (upI (upI (cpA (cpA (cpA (cpA (cpA hp (v1 + 1) (c + 1) 160) (v1 + 2) (c + 2) 80) (v1 + 3) (c + 3) 2) (v1 + 4) (c + 4) 8) (v1 + 5) (c + 5) 1600) c 1 ((cpA (cpA (cpA (cpA (cpA hp (v1 + 1) (c + 1) 160) (v1 + 2) (c + 2) 80) (v1 + 3) (c + 3) 2) (v1 + 4) (c + 4) 8) (v1 + 5) (c + 5) 1600).1 v1 1)) c 2 ((upI (cpA (cpA (cpA (cpA (cpA hp (v1 + 1) (c + 1) 160) (v1 + 2) (c + 2) 80) (v1 + 3) (c + 3) 2) (v1 + 4) (c + 4) 8) (v1 + 5) (c + 5) 1600) c 1 ((cpA (cpA (cpA (cpA (cpA hp (v1 + 1) (c + 1) 160) (v1 + 2) (c + 2) 80) (v1 + 3) (c + 3) 2) (v1 + 4) (c + 4) 8) (v1 + 5) (c + 5) 1600).1 v1 1)).1 v1 2)) c 3 ((upI (upI (cpA (cpA (cpA (cpA (cpA hp (v1 + 1) (c + 1) 160) (v1 + 2) (c + 2) 80) (v1 + 3) (c + 3) 2) (v1 + 4) (c + 4) 8) (v1 + 5) (c + 5) 1600) c 1 ((cpA (cpA (cpA (cpA (cpA hp (v1 + 1) (c + 1) 160) (v1 + 2) (c + 2) 80) (v1 + 3) (c + 3) 2) (v1 + 4) (c + 4) 8) (v1 + 5) (c + 5) 1600).1 v1 1)) c 2 ((upI (cpA (cpA (cpA (cpA (cpA hp (v1 + 1) (c + 1) 160) (v1 + 2) (c + 2) 80) (v1 + 3) (c + 3) 2) (v1 + 4) (c + 4) 8) (v1 + 5) (c + 5) 1600) c 1 ((cpA (cpA (cpA (cpA (cpA hp (v1 + 1) (c + 1) 160) (v1 + 2) (c + 2) 80) (v1 + 3) (c + 3) 2) (v1 + 4) (c + 4) 8) (v1 + 5) (c + 5) 1600).1 v1 1)).1 v1 2)).1 v1 3)) c 8 ((upI (upI (upI (cpA (cpA (cpA (cpA (cpA hp (v1 + 1) (c + 1) 160) (v1 + 2) (c + 2) 80) (v1 + 3) (c + 3) 2) (v1 + 4) (c + 4) 8) (v1 + 5) (c + 5) 1600) c 1 ((cpA (cpA (cpA (cpA (cpA hp (v1 + 1) (c + 1) 160) (v1 + 2) (c + 2) 80) (v1 + 3) (c + 3) 2) (v1 + 4) (c + 4) 8) (v1 + 5) (c + 5) 1600).1 v1 1)) c 2 ((upI (cpA (cpA (cpA (cpA (cpA hp (v1 + 1) (c + 1) 160) (v1 + 2) (c + 2) 80) (v1 + 3) (c + 3) 2) (v1 + 4) (c + 4) 8) (v1 + 5) (c + 5) 1600) c 1 ((cpA (cpA (cpA (cpA (cpA hp (v1 + 1) (c + 1) 160) (v1 + 2) (c + 2) 80) (v1 + 3) (c + 3) 2) (v1 + 4) (c + 4) 8) (v1 + 5) (c + 5) 1600).1 v1 1)).1 v1 2)) c 3 ((upI (upI (cpA (cpA (cpA (cpA (cpA hp (v1 + 1) (c + 1) 160) (v1 + 2) (c + 2) 80) (v1 + 3) (c + 3) 2) (v1 + 4) (c + 4) 8) (v1 + 5) (c + 5) 1600) c 1 ((cpA (cpA (cpA (cpA (cpA hp (v1 + 1) (c + 1) 160) (v1 + 2) (c + 2) 80) (v1 + 3) (c + 3) 2) (v1 + 4) (c + 4) 8) (v1 + 5) (c + 5) 1600).1 v1 1)) c 2 ((upI (cpA (cpA (cpA (cpA (cpA hp (v1 + 1) (c + 1) 160) (v1 + 2) (c + 2) 80) (v1 + 3) (c + 3) 2) (v1 + 4) (c + 4) 8) (v1 + 5) (c + 5) 1600) c 1 ((cpA (cpA (cpA (cpA (cpA hp (v1 + 1) (c + 1) 160) (v1 + 2) (c + 2) 80) (v1 + 3) (c + 3) 2) (v1 + 4) (c + 4) 8) (v1 + 5) (c + 5) 1600).1 v1 1)).1 v1 2)).1 v1 3)).1 v1 8)) c 9 ((upI (upI (upI (upI (cpA (cpA (cpA (cpA (cpA hp (v1 + 1) (c + 1) 160) (v1 + 2) (c + 2) 80) (v1 + 3) (c + 3) 2) (v1 + 4) (c + 4) 8) (v1 + 5) (c + 5) 1600) c 1 ((cpA (cpA (cpA (cpA (cpA hp (v1 + 1) (c + 1) 160) (v1 + 2) (c + 2) 80) (v1 + 3) (c + 3) 2) (v1 + 4) (c + 4) 8) (v1 + 5) (c + 5) 1600).1 v1 1)) c 2 ((upI (cpA (cpA (cpA (cpA (cpA hp (v1 + 1) (c + 1) 160) (v1 + 2) (c + 2) 80) (v1 + 3) (c + 3) 2) (v1 + 4) (c + 4) 8) (v1 + 5) (c + 5) 1600) c 1 ((cpA (cpA (cpA (cpA (cpA hp (v1 + 1) (c + 1) 160) (v1 + 2) (c + 2) 80) (v1 + 3) (c + 3) 2) (v1 + 4) (c + 4) 8) (v1 + 5) (c + 5) 1600).1 v1 1)).1 v1 2)) c 3 ((upI (upI (cpA (cpA (cpA (cpA (cpA hp (v1 + 1) (c + 1) 160) (v1 + 2) (c + 2) 80) (v1 + 3) (c + 3) 2) (v1 + 4) (c + 4) 8) (v1 + 5) (c + 5) 1600) c 1 ((cpA (cpA (cpA (cpA (cpA hp (v1 + 1) (c + 1) 160) (v1 + 2) (c + 2) 80) (v1 + 3) (c + 3) 2) (v1 + 4) (c + 4) 8) (v1 + 5) (c + 5) 1600).1 v1 1)) c 2 ((upI (cpA (cpA (cpA (cpA (cpA hp (v1 + 1) (c + 1) 160) (v1 + 2) (c + 2) 80) (v1 + 3) (c + 3) 2) (v1 + 4) (c + 4) 8) (v1 + 5) (c + 5) 1600) c 1 ((cpA (cpA (cpA (cpA (cpA hp (v1 + 1) (c + 1) 160) (v1 + 2) (c + 2) 80) (v1 + 3) (c + 3) 2) (v1 + 4) (c + 4) 8) (v1 + 5) (c + 5) 1600).1 v1 1)).1 v1 2)).1 v1 3)) c 8 ((upI (upI (upI (cpA (cpA (cpA (cpA (cpA hp (v1 + 1) (c + 1) 160) (v1 + 2) (c + 2) 80) (v1 + 3) (c + 3) 2) (v1 + 4) (c + 4) 8) (v1 + 5) (c + 5) 1600) c 1 ((cpA (cpA (cpA (cpA (cpA hp (v1 + 1) (c + 1) 160) (v1 + 2) (c + 2) 80) (v1 + 3) (c + 3) 2) (v1 + 4) (c + 4) 8) (v1 + 5) (c + 5) 1600).1 v1 1)) c 2 ((upI (cpA (cpA (cpA (cpA (cpA hp (v1 + 1) (c + 1) 160) (v1 + 2) (c + 2) 80) (v1 + 3) (c + 3) 2) (v1 + 4) (c + 4) 8) (v1 + 5) (c + 5) 1600) c 1 ((cpA (cpA (cpA (cpA (cpA hp (v1 + 1) (c + 1) 160) (v1 + 2) (c + 2) 80) (v1 + 3) (c + 3) 2) (v1 + 4) (c + 4) 8) (v1 + 5) (c + 5) 1600).1 v1 1)).1 v1 2)) c 3 ((upI (upI (cpA (cpA (cpA (cpA (cpA hp (v1 + 1) (c + 1) 160) (v1 + 2) (c + 2) 80) (v1 + 3) (c + 3) 2) (v1 + 4) (c + 4) 8) (v1 + 5) (c + 5) 1600) c 1 ((cpA (cpA (cpA (cpA (cpA hp (v1 + 1) (c + 1) 160) (v1 + 2) (c + 2) 80) (v1 + 3) (c + 3) 2) (v1 + 4) (c + 4) 8) (v1 + 5) (c + 5) 1600).1 v1 1)) c 2 ((upI (cpA (cpA (cpA (cpA (cpA hp (v1 + 1) (c + 1) 160) (v1 + 2) (c + 2) 80) (v1 + 3) (c + 3) 2) (v1 + 4) (c + 4) 8) (v1 + 5) (c + 5) 1600) c 1 ((cpA (cpA (cpA (cpA (cpA hp (v1 + 1) (c + 1) 160) (v1 + 2) (c + 2) 80) (v1 + 3) (c + 3) 2) (v1 + 4) (c + 4) 8) (v1 + 5) (c + 5) 1600).1 v1 1)).1 v1 2)).1 v1 3)).1 v1 8)).1 v1 9)) c 10 ((upI (upI (upI (upI (upI (cpA (cpA (cpA (cpA (cpA hp (v1 + 1) (c + 1) 160) (v1 + 2) (c + 2) 80) (v1 + 3) (c + 3) 2) (v1 + 4) (c + 4) 8) (v1 + 5) (c + 5) 1600) c 1 ((cpA (cpA (cpA (cpA (cpA hp (v1 + 1) (c + 1) 160) (v1 + 2) (c + 2) 80) (v1 + 3) (c + 3) 2) (v1 + 4) (c + 4) 8) (v1 + 5) (c + 5) 1600).1 v1 1)) c 2 ((upI (cpA (cpA (cpA (cpA (cpA hp (v1 + 1) (c + 1) 160) (v1 + 2) (c + 2) 80) (v1 + 3) (c + 3) 2) (v1 + 4) (c + 4) 8) (v1 + 5) (c + 5) 1600) c 1 ((cpA (cpA (cpA (cpA (cpA hp (v1 + 1) (c + 1) 160) (v1 + 2) (c + 2) 80) (v1 + 3) (c + 3) 2) (v1 + 4) (c + 4) 8) (v1 + 5) (c + 5) 1600).1 v1 1)).1 v1 2)) c 3 ((upI (upI (cpA (cpA (cpA (cpA (cpA hp (v1 + 1) (c + 1) 160) (v1 + 2) (c + 2) 80) (v1 + 3) (c + 3) 2) (v1 + 4) (c + 4) 8) (v1 + 5) (c + 5) 1600) c 1 ((cpA (cpA (cpA (cpA (cpA hp (v1 + 1) (c + 1) 160) (v1 + 2) (c + 2) 80) (v1 + 3) (c + 3) 2) (v1 + 4) (c + 4) 8) (v1 + 5) (c + 5) 1600).1 v1 1)) c 2 ((upI (cpA (cpA (cpA (cpA (cpA hp (v1 + 1) (c + 1) 160) (v1 + 2) (c + 2) 80) (v1 + 3) (c + 3) 2) (v1 + 4) (c + 4) 8) (v1 + 5) (c + 5) 1600) c 1 ((cpA (cpA (cpA (cpA (cpA hp (v1 + 1) (c + 1) 160) (v1 + 2) (c + 2) 80) (v1 + 3) (c + 3) 2) (v1 + 4) (c + 4) 8) (v1 + 5) (c + 5) 1600).1 v1 1)).1 v1 2)).1 v1 3)) c 8 ((upI (upI (upI (cpA (cpA (cpA (cpA (cpA hp (v1 + 1) (c + 1) 160) (v1 + 2) (c + 2) 80) (v1 + 3) (c + 3) 2) (v1 + 4) (c + 4) 8) (v1 + 5) (c + 5) 1600) c 1 ((cpA (cpA (cpA (cpA (cpA hp (v1 + 1) (c + 1) 160) (v1 + 2) (c + 2) 80) (v1 + 3) (c + 3) 2) (v1 + 4) (c + 4) 8) (v1 + 5) (c + 5) 1600).1 v1 1)) c 2 ((upI (cpA (cpA (cpA (cpA (cpA hp (v1 + 1) (c + 1) 160) (v1 + 2) (c + 2) 80) (v1 + 3) (c + 3) 2) (v1 + 4) (c + 4) 8) (v1 + 5) (c + 5) 1600) c 1 ((cpA (cpA (cpA (cpA (cpA hp (v1 + 1) (c + 1) 160) (v1 + 2) (c + 2) 80) (v1 + 3) (c + 3) 2) (v1 + 4) (c + 4) 8) (v1 + 5) (c + 5) 1600).1 v1 1)).1 v1 2)) c 3 ((upI (upI (cpA (cpA (cpA (cpA (cpA hp (v1 + 1) (c + 1) 160) (v1 + 2) (c + 2) 80) (v1 + 3) (c + 3) 2) (v1 + 4) (c + 4) 8) (v1 + 5) (c + 5) 1600) c 1 ((cpA (cpA (cpA (cpA (cpA hp (v1 + 1) (c + 1) 160) (v1 + 2) (c + 2) 80) (v1 + 3) (c + 3) 2) (v1 + 4) (c + 4) 8) (v1 + 5) (c + 5) 1600).1 v1 1)) c 2 ((upI (cpA (cpA (cpA (cpA (cpA hp (v1 + 1) (c + 1) 160) (v1 + 2) (c + 2) 80) (v1 + 3) (c + 3) 2) (v1 + 4) (c + 4) 8) (v1 + 5) (c + 5) 1600) c 1 ((cpA (cpA (cpA (cpA (cpA hp (v1 + 1) (c + 1) 160) (v1 + 2) (c + 2) 80) (v1 + 3) (c + 3) 2) (v1 + 4) (c + 4) 8) (v1 + 5) (c + 5) 1600).1 v1 1)).1 v1 2)).1 v1 3)).1 v1 8)) c 9 ((upI (upI (upI (upI (cpA (cpA (cpA (cpA (cpA hp (v1 + 1) (c + 1) 160) (v1 + 2) (c + 2) 80) (v1 + 3) (c + 3) 2) (v1 + 4) (c + 4) 8) (v1 + 5) (c + 5) 1600) c 1 ((cpA (cpA (cpA (cpA (cpA hp (v1 + 1) (c + 1) 160) (v1 + 2) (c + 2) 80) (v1 + 3) (c + 3) 2) (v1 + 4) (c + 4) 8) (v1 + 5) (c + 5) 1600).1 v1 1)) c 2 ((upI (cpA (cpA (cpA (cpA (cpA hp (v1 + 1) (c + 1) 160) (v1 + 2) (c + 2) 80) (v1 + 3) (c + 3) 2) (v1 + 4) (c + 4) 8) (v1 + 5) (c + 5) 1600) c 1 ((cpA (cpA (cpA (cpA (cpA hp (v1 + 1) (c + 1) 160) (v1 + 2) (c + 2) 80) (v1 + 3) (c + 3) 2) (v1 + 4) (c + 4) 8) (v1 + 5) (c + 5) 1600).1 v1 1)).1 v1 2)) c 3 ((upI (upI (cpA (cpA (cpA (cpA (cpA hp (v1 + 1) (c + 1) 160) (v1 + 2) (c + 2) 80) (v1 + 3) (c + 3) 2) (v1 + 4) (c + 4) 8) (v1 + 5) (c + 5) 1600) c 1 ((cpA (cpA (cpA (cpA (cpA hp (v1 + 1) (c + 1) 160) (v1 + 2) (c + 2) 80) (v1 + 3) (c + 3) 2) (v1 + 4) (c + 4) 8) (v1 + 5) (c + 5) 1600).1 v1 1)) c 2 ((upI (cpA (cpA (cpA (cpA (cpA hp (v1 + 1) (c + 1) 160) (v1 + 2) (c + 2) 80) (v1 + 3) (c + 3) 2) (v1 + 4) (c + 4) 8) (v1 + 5) (c + 5) 1600) c 1 ((cpA (cpA (cpA (cpA (cpA hp (v1 + 1) (c + 1) 160) (v1 + 2) (c + 2) 80) (v1 + 3) (c + 3) 2) (v1 + 4) (c + 4) 8) (v1 + 5) (c + 5) 1600).1 v1 1)).1 v1 2)).1 v1 3)) c 8 ((upI (upI (upI (cpA (cpA (cpA (cpA (cpA hp (v1 + 1) (c + 1) 160) (v1 + 2) (c + 2) 80) (v1 + 3) (c + 3) 2) (v1 + 4) (c + 4) 8) (v1 + 5) (c + 5) 1600) c 1 ((cpA (cpA (cpA (cpA (cpA hp (v1 + 1) (c + 1) 160) (v1 + 2) (c + 2) 80) (v1 + 3) (c + 3) 2) (v1 + 4) (c + 4) 8) (v1 + 5) (c + 5) 1600).1 v1 1)) c 2 ((upI (cpA (cpA (cpA (cpA (cpA hp (v1 + 1) (c + 1) 160) (v1 + 2) (c + 2) 80) (v1 + 3) (c + 3) 2) (v1 + 4) (c + 4) 8) (v1 + 5) (c + 5) 1600) c 1 ((cpA (cpA (cpA (cpA (cpA hp (v1 + 1) (c + 1) 160) (v1 + 2) (c + 2) 80) (v1 + 3) (c + 3) 2) (v1 + 4) (c + 4) 8) (v1 + 5) (c + 5) 1600).1 v1 1)).1 v1 2)) c 3 ((upI (upI (cpA (cpA (cpA (cpA (cpA hp (v1 + 1) (c + 1) 160) (v1 + 2) (c + 2) 80) (v1 + 3) (c + 3) 2) (v1 + 4) (c + 4) 8) (v1 + 5) (c + 5) 1600) c 1 ((cpA (cpA (cpA (cpA (cpA hp (v1 + 1) (c + 1) 160) (v1 + 2) (c + 2) 80) (v1 + 3) (c + 3) 2) (v1 + 4) (c + 4) 8) (v1 + 5) (c + 5) 1600).1 v1 1)) c 2 ((upI (cpA (cpA (cpA (cpA (cpA hp (v1 + 1) (c + 1) 160) (v1 + 2) (c + 2) 80) (v1 + 3) (c + 3) 2) (v1 + 4) (c + 4) 8) (v1 + 5) (c + 5) 1600) c 1 ((cpA (cpA (cpA (cpA (cpA hp (v1 + 1) (c + 1) 160) (v1 + 2) (c + 2) 80) (v1 + 3) (c + 3) 2) (v1 + 4) (c + 4) 8) (v1 + 5) (c + 5) 1600).1 v1 1)).1 v1 2)).1 v1 3)).1 v1 8)).1 v1 9)).1 v1 10)) c 11 ((upI (upI (upI (upI (upI (upI (cpA (cpA (cpA (cpA (cpA hp (v1 + 1) (c + 1) 160) (v1 + 2) (c + 2) 80) (v1 + 3) (c + 3) 2) (v1 + 4) (c + 4) 8) (v1 + 5) (c + 5) 1600) c 1 ((cpA (cpA (cpA (cpA (cpA hp (v1 + 1) (c + 1) 160) (v1 + 2) (c + 2) 80) (v1 + 3) (c + 3) 2) (v1 + 4) (c + 4) 8) (v1 + 5) (c + 5) 1600).1 v1 1)) c 2 ((upI (cpA (cpA (cpA (cpA (cpA hp (v1 + 1) (c + 1) 160) (v1 + 2) (c + 2) 80) (v1 + 3) (c + 3) 2) (v1 + 4) (c + 4) 8) (v1 + 5) (c + 5) 1600) c 1 ((cpA (cpA (cpA (cpA (cpA hp (v1 + 1) (c + 1) 160) (v1 + 2) (c + 2) 80) (v1 + 3) (c + 3) 2) (v1 + 4) (c + 4) 8) (v1 + 5) (c + 5) 1600).1 v1 1)).1 v1 2)) c 3 ((upI (upI (cpA (cpA (cpA (cpA (cpA hp (v1 + 1) (c + 1) 160) (v1 + 2) (c + 2) 80) (v1 + 3) (c + 3) 2) (v1 + 4) (c + 4) 8) (v1 + 5) (c + 5) 1600) c 1 ((cpA (cpA (cpA (cpA (cpA hp (v1 + 1) (c + 1) 160) (v1 + 2) (c + 2) 80) (v1 + 3) (c + 3) 2) (v1 + 4) (c + 4) 8) (v1 + 5) (c + 5) 1600).1 v1 1)) c 2 ((upI (cpA (cpA (cpA (cpA (cpA hp (v1 + 1) (c + 1) 160) (v1 + 2) (c + 2) 80) (v1 + 3) (c + 3) 2) (v1 + 4) (c + 4) 8) (v1 + 5) (c + 5) 1600) c 1 ((cpA (cpA (cpA (cpA (cpA hp (v1 + 1) (c + 1) 160) (v1 + 2) (c + 2) 80) (v1 + 3) (c + 3) 2) (v1 + 4) (c + 4) 8) (v1 + 5) (c + 5) 1600).1 v1 1)).1 v1 2)).1 v1 3)) c 8 ((upI (upI (upI (cpA (cpA (cpA (cpA (cpA hp (v1 + 1) (c + 1) 160) (v1 + 2) (c + 2) 80) (v1 + 3) (c + 3) 2) (v1 + 4) (c + 4) 8) (v1 + 5) (c + 5) 1600) c 1 ((cpA (cpA (cpA (cpA (cpA hp (v1 + 1) (c + 1) 160) (v1 + 2) (c + 2) 80) (v1 + 3) (c + 3) 2) (v1 + 4) (c + 4) 8) (v1 + 5) (c + 5) 1600).1 v1 1)) c 2 ((upI (cpA (cpA (cpA (cpA (cpA hp (v1 + 1) (c + 1) 160) (v1 + 2) (c + 2) 80) (v1 + 3) (c + 3) 2) (v1 + 4) (c + 4) 8) (v1 + 5) (c + 5) 1600) c 1 ((cpA (cpA (cpA (cpA (cpA hp (v1 + 1) (c + 1) 160) (v1 + 2) (c + 2) 80) (v1 + 3) (c + 3) 2) (v1 + 4) (c + 4) 8) (v1 + 5) (c + 5) 1600).1 v1 1)).1 v1 2)) c 3 ((upI (upI (cpA (cpA (cpA (cpA (cpA hp (v1 + 1) (c + 1) 160) (v1 + 2) (c + 2) 80) (v1 + 3) (c + 3) 2) (v1 + 4) (c + 4) 8) (v1 + 5) (c + 5) 1600) c 1 ((cpA (cpA (cpA (cpA (cpA hp (v1 + 1) (c + 1) 160) (v1 + 2) (c + 2) 80) (v1 + 3) (c + 3) 2) (v1 + 4) (c + 4) 8) (v1 + 5) (c + 5) 1600).1 v1 1)) c 2 ((upI (cpA (cpA (cpA (cpA (cpA hp (v1 + 1) (c + 1) 160) (v1 + 2) (c + 2) 80) (v1 + 3) (c + 3) 2) (v1 + 4) (c + 4) 8) (v1 + 5) (c + 5) 1600) c 1 ((cpA (cpA (cpA (cpA (cpA hp (v1 + 1) (c + 1) 160) (v1 + 2) (c + 2) 80) (v1 + 3) (c + 3) 2) (v1 + 4) (c + 4) 8) (v1 + 5) (c + 5) 1600).1 v1 1)).1 v1 2)).1 v1 3)).1 v1 8)) c 9 ((upI (upI (upI (upI (cpA (cpA (cpA (cpA (cpA hp (v1 + 1) (c + 1) 160) (v1 + 2) (c + 2) 80) (v1 + 3) (c + 3) 2) (v1 + 4) (c + 4) 8) (v1 + 5) (c + 5) 1600) c 1 ((cpA (cpA (cpA (cpA (cpA hp (v1 + 1) (c + 1) 160) (v1 + 2) (c + 2) 80) (v1 + 3) (c + 3) 2) (v1 + 4) (c + 4) 8) (v1 + 5) (c + 5) 1600).1 v1 1)) c 2 ((upI (cpA (cpA (cpA (cpA (cpA hp (v1 + 1) (c + 1) 160) (v1 + 2) (c + 2) 80) (v1 + 3) (c + 3) 2) (v1 + 4) (c + 4) 8) (v1 + 5) (c + 5) 1600) c 1 ((cpA (cpA (cpA (cpA (cpA hp (v1 + 1) (c + 1) 160) (v1 + 2) (c + 2) 80) (v1 + 3) (c + 3) 2) (v1 + 4) (c + 4) 8) (v1 + 5) (c + 5) 1600).1 v1 1)).1 v1 2)) c 3 ((upI (upI (cpA (cpA (cpA (cpA (cpA hp (v1 + 1) (c + 1) 160) (v1 + 2) (c + 2) 80) (v1 + 3) (c + 3) 2) (v1 + 4) (c + 4) 8) (v1 + 5) (c + 5) 1600) c 1 ((cpA (cpA (cpA (cpA (cpA hp (v1 + 1) (c + 1) 160) (v1 + 2) (c + 2) 80) (v1 + 3) (c + 3) 2) (v1 + 4) (c + 4) 8) (v1 + 5) (c + 5) 1600).1 v1 1)) c 2 ((upI (cpA (cpA (cpA (cpA (cpA hp (v1 + 1) (c + 1) 160) (v1 + 2) (c + 2) 80) (v1 + 3) (c + 3) 2) (v1 + 4) (c + 4) 8) (v1 + 5) (c + 5) 1600) c 1 ((cpA (cpA (cpA (cpA (cpA hp (v1 + 1) (c + 1) 160) (v1 + 2) (c + 2) 80) (v1 + 3) (c + 3) 2) (v1 + 4) (c + 4) 8) (v1 + 5) (c + 5) 1600).1 v1 1)).1 v1 2)).1 v1 3)) c 8 ((upI (upI (upI (cpA (cpA (cpA (cpA (cpA hp (v1 + 1) (c + 1) 160) (v1 + 2) (c + 2) 80) (v1 + 3) (c + 3) 2) (v1 + 4) (c + 4) 8) (v1 + 5) (c + 5) 1600) c 1 ((cpA (cpA (cpA (cpA (cpA hp (v1 + 1) (c + 1) 160) (v1 + 2) (c + 2) 80) (v1 + 3) (c + 3) 2) (v1 + 4) (c + 4) 8) (v1 + 5) (c + 5) 1600).1 v1 1)) c 2 ((upI (cpA (cpA (cpA (cpA (cpA hp (v1 + 1) (c + 1) 160) (v1 + 2) (c + 2) 80) (v1 + 3) (c + 3) 2) (v1 + 4) (c + 4) 8) (v1 + 5) (c + 5) 1600) c 1 ((cpA (cpA (cpA (cpA (cpA hp (v1 + 1) (c + 1) 160) (v1 + 2) (c + 2) 80) (v1 + 3) (c + 3) 2) (v1 + 4) (c + 4) 8) (v1 + 5) (c + 5) 1600).1 v1 1)).1 v1 2)) c 3 ((upI (upI (cpA (cpA (cpA (cpA (cpA hp (v1 + 1) (c + 1) 160) (v1 + 2) (c + 2) 80) (v1 + 3) (c + 3) 2) (v1 + 4) (c + 4) 8) (v1 + 5) (c + 5) 1600) c 1 ((cpA (cpA (cpA (cpA (cpA hp (v1 + 1) (c + 1) 160) (v1 + 2) (c + 2) 80) (v1 + 3) (c + 3) 2) (v1 + 4) (c + 4) 8) (v1 + 5) (c + 5) 1600).1 v1 1)) c 2 ((upI (cpA (cpA (cpA (cpA (cpA hp (v1 + 1) (c + 1) 160) (v1 + 2) (c + 2) 80) (v1 + 3) (c + 3) 2) (v1 + 4) (c + 4) 8) (v1 + 5) (c + 5) 1600) c 1 ((cpA (cpA (cpA (cpA (cpA hp (v1 + 1) (c + 1) 160) (v1 + 2) (c + 2) 80) (v1 + 3) (c + 3) 2) (v1 + 4) (c + 4) 8) (v1 + 5) (c + 5) 1600).1 v1 1)).1 v1 2)).1 v1 3)).1 v1 8)).1 v1 9)) c 10 ((upI (upI (upI (upI (upI (cpA (cpA (cpA (cpA (cpA hp (v1 + 1) (c + 1) 160) (v1 + 2) (c + 2) 80) (v1 + 3) (c + 3) 2) (v1 + 4) (c + 4) 8) (v1 + 5) (c + 5) 1600) c 1 ((cpA (cpA (cpA (cpA (cpA hp (v1 + 1) (c + 1) 160) (v1 + 2) (c + 2) 80) (v1 + 3) (c + 3) 2) (v1 + 4) (c + 4) 8) (v1 + 5) (c + 5) 1600).1 v1 1)) c 2 ((upI (cpA (cpA (cpA (cpA (cpA hp (v1 + 1) (c + 1) 160) (v1 + 2) (c + 2) 80) (v1 + 3) (c + 3) 2) (v1 + 4) (c + 4) 8) (v1 + 5) (c + 5) 1600) c 1 ((cpA (cpA (cpA (cpA (cpA hp (v1 + 1) (c + 1) 160) (v1 + 2) (c + 2) 80) (v1 + 3) (c + 3) 2) (v1 + 4) (c + 4) 8) (v1 + 5) (c + 5) 1600).1 v1 1)).1 v1 2)) c 3 ((upI (upI (cpA (cpA (cpA (cpA (cpA hp (v1 + 1) (c + 1) 160) (v1 + 2) (c + 2) 80) (v1 + 3) (c + 3) 2) (v1 + 4) (c + 4) 8) (v1 + 5) (c + 5) 1600) c 1 ((cpA (cpA (cpA (cpA (cpA hp (v1 + 1) (c + 1) 160) (v1 + 2) (c + 2) 80) (v1 + 3) (c + 3) 2) (v1 + 4) (c + 4) 8) (v1 + 5) (c + 5) 1600).1 v1 1)) c 2 ((upI (cpA (cpA (cpA (cpA (cpA hp (v1 + 1) (c + 1) 160) (v1 + 2) (c + 2) 80) (v1 + 3) (c + 3) 2) (v1 + 4) (c + 4) 8) (v1 + 5) (c + 5) 1600) c 1 ((cpA (cpA (cpA (cpA (cpA hp (v1 + 1) (c + 1) 160) (v1 + 2) (c + 2) 80) (v1 + 3) (c + 3) 2) (v1 + 4) (c + 4) 8) (v1 + 5) (c + 5) 1600).1 v1 1)).1 v1 2)).1 v1 3)) c 8 ((upI (upI (upI (cpA (cpA (cpA (cpA (cpA hp (v1 + 1) (c + 1) 160) (v1 + 2) (c + 2) 80) (v1 + 3) (c + 3) 2) (v1 + 4) (c + 4) 8) (v1 + 5) (c + 5) 1600) c 1 ((cpA (cpA (cpA (cpA (cpA hp (v1 + 1) (c + 1) 160) (v1 + 2) (c + 2) 80) (v1 + 3) (c + 3) 2) (v1 + 4) (c + 4) 8) (v1 + 5) (c + 5) 1600).1 v1 1)) c 2 ((upI (cpA (cpA (cpA (cpA (cpA hp (v1 + 1) (c + 1) 160) (v1 + 2) (c + 2) 80) (v1 + 3) (c + 3) 2) (v1 + 4) (c + 4) 8) (v1 + 5) (c + 5) 1600) c 1 ((cpA (cpA (cpA (cpA (cpA hp (v1 + 1) (c + 1) 160) (v1 + 2) (c + 2) 80) (v1 + 3) (c + 3) 2) (v1 + 4) (c + 4) 8) (v1 + 5) (c + 5) 1600).1 v1 1)).1 v1 2)) c 3 ((upI (upI (cpA (cpA (cpA (cpA (cpA hp (v1 + 1) (c + 1) 160) (v1 + 2) (c + 2) 80) (v1 + 3) (c + 3) 2) (v1 + 4) (c + 4) 8) (v1 + 5) (c + 5) 1600) c 1 ((cpA (cpA (cpA (cpA (cpA hp (v1 + 1) (c + 1) 160) (v1 + 2) (c + 2) 80) (v1 + 3) (c + 3) 2) (v1 + 4) (c + 4) 8) (v1 + 5) (c + 5) 1600).1 v1 1)) c 2 ((upI (cpA (cpA (cpA (cpA (cpA hp (v1 + 1) (c + 1) 160) (v1 + 2) (c + 2) 80) (v1 + 3) (c + 3) 2) (v1 + 4) (c + 4) 8) (v1 + 5) (c + 5) 1600) c 1 ((cpA (cpA (cpA (cpA (cpA hp (v1 + 1) (c + 1) 160) (v1 + 2) (c + 2) 80) (v1 + 3) (c + 3) 2) (v1 + 4) (c + 4) 8) (v1 + 5) (c + 5) 1600).1 v1 1)).1 v1 2)).1 v1 3)).1 v1 8)) c 9 ((upI (upI (upI (upI (cpA (cpA (cpA (cpA (cpA hp (v1 + 1) (c + 1) 160) (v1 + 2) (c + 2) 80) (v1 + 3) (c + 3) 2) (v1 + 4) (c + 4) 8) (v1 + 5) (c + 5) 1600) c 1 ((cpA (cpA (cpA (cpA (cpA hp (v1 + 1) (c + 1) 160) (v1 + 2) (c + 2) 80) (v1 + 3) (c + 3) 2) (v1 + 4) (c + 4) 8) (v1 + 5) (c + 5) 1600).1 v1 1)) c 2 ((upI (cpA (cpA (cpA (cpA (cpA hp (v1 + 1) (c + 1) 160) (v1 + 2) (c + 2) 80) (v1 + 3) (c + 3) 2) (v1 + 4) (c + 4) 8) (v1 + 5) (c + 5) 1600) c 1 ((cpA (cpA (cpA (cpA (cpA hp (v1 + 1) (c + 1) 160) (v1 + 2) (c + 2) 80) (v1 + 3) (c + 3) 2) (v1 + 4) (c + 4) 8) (v1 + 5) (c + 5) 1600).1 v1 1)).1 v1 2)) c 3 ((upI (upI (cpA (cpA (cpA (cpA (cpA hp (v1 + 1) (c + 1) 160) (v1 + 2) (c + 2) 80) (v1 + 3) (c + 3) 2) (v1 + 4) (c + 4) 8) (v1 + 5) (c + 5) 1600) c 1 ((cpA (cpA (cpA (cpA (cpA hp (v1 + 1) (c + 1) 160) (v1 + 2) (c + 2) 80) (v1 + 3) (c + 3) 2) (v1 + 4) (c + 4) 8) (v1 + 5) (c + 5) 1600).1 v1 1)) c 2 ((upI (cpA (cpA (cpA (cpA (cpA hp (v1 + 1) (c + 1) 160) (v1 + 2) (c + 2) 80) (v1 + 3) (c + 3) 2) (v1 + 4) (c + 4) 8) (v1 + 5) (c + 5) 1600) c 1 ((cpA (cpA (cpA (cpA (cpA hp (v1 + 1) (c + 1) 160) (v1 + 2) (c + 2) 80) (v1 + 3) (c + 3) 2) (v1 + 4) (c + 4) 8) (v1 + 5) (c + 5) 1600).1 v1 1)).1 v1 2)).1 v1 3)) c 8 ((upI (upI (upI (cpA (cpA (cpA (cpA (cpA hp (v1 + 1) (c + 1) 160) (v1 + 2) (c + 2) 80) (v1 + 3) (c + 3) 2) (v1 + 4) (c + 4) 8) (v1 + 5) (c + 5) 1600) c 1 ((cpA (cpA (cpA (cpA (cpA hp (v1 + 1) (c + 1) 160) (v1 + 2) (c + 2) 80) (v1 + 3) (c + 3) 2) (v1 + 4) (c + 4) 8) (v1 + 5) (c + 5) 1600).1 v1 1)) c 2 ((upI (cpA (cpA (cpA (cpA (cpA hp (v1 + 1) (c + 1) 160) (v1 + 2) (c + 2) 80) (v1 + 3) (c + 3) 2) (v1 + 4) (c + 4) 8) (v1 + 5) (c + 5) 1600) c 1 ((cpA (cpA (cpA (cpA (cpA hp (v1 + 1) (c + 1) 160) (v1 + 2) (c + 2) 80) (v1 + 3) (c + 3) 2) (v1 + 4) (c + 4) 8) (v1 + 5) (c + 5) 1600).1 v1 1)).1 v1 2)) c 3 ((upI (upI (cpA (cpA (cpA (cpA (cpA hp (v1 + 1) (c + 1) 160) (v1 + 2) (c + 2) 80) (v1 + 3) (c + 3) 2) (v1 + 4) (c + 4) 8) (v1 + 5) (c + 5) 1600) c 1 ((cpA (cpA (cpA (cpA (cpA hp (v1 + 1) (c + 1) 160) (v1 + 2) (c + 2) 80) (v1 + 3) (c + 3) 2) (v1 + 4) (c + 4) 8) (v1 + 5) (c + 5) 1600).1 v1 1)) c 2 ((upI (cpA (cpA (cpA (cpA (cpA hp (v1 + 1) (c + 1) 160) (v1 + 2) (c + 2) 80) (v1 + 3) (c + 3) 2) (v1 + 4) (c + 4) 8) (v1 + 5) (c + 5) 1600) c 1 ((cpA (cpA (cpA (cpA (cpA hp (v1 + 1) (c + 1) 160) (v1 + 2) (c + 2) 80) (v1 + 3) (c + 3) 2) (v1 + 4) (c + 4) 8) (v1 + 5) (c + 5) 1600).1 v1 1)).1 v1 2)).1 v1 3)).1 v1 8)).1 v1 9)).1 v1 10)).1 v1 11)).1 v1 12)) = res := hk
  subst hk
  exact Fx.vret (by decide +kernel) rfl
set_option maxHeartbeats 4000000 in
set_option maxRecDepth 20000 in
theorem t_Ro_copyFrom (sh : Shp) (c : Nat) (hS : S_Ro sh c) (hp : HP) (v1 : Nat) (hv1 : S_Ro sh v1) (res : HP) (hf : f_Ro_copyFrom c hp v1 = some res) : Ex 1 q_Ro_copyFrom sh [.ref c, .ref v1] hp none res := by
  refine Ex.of [some (.ref c), some (.ref v1)] rfl (Nat.le_of_ble_eq_true rfl) (by decide +kernel) rfl ?_
  obtain ⟨t, hk⟩ : ∃ t, t = res := ⟨res, rfl⟩
  rw [← hk] at hf
  unfold f_Ro_copyFrom at hf
  refine Fx.run [(.aload_n 0, 1, 0, 0, .null), (.aload_n 1, 1, 1, 0, .null), (.getfield 27, 3, 4, 5, .null), (.putfield 27, 3, 4, 5, .null), (.aload_n 1, 1, 1, 0, .null), (.getfield 9, 3, 4, 0, .ref 1), (.iconst 0, 1, 0, 0, .int 0), (.aload_n 0, 1, 0, 0, .null), (.getfield 9, 3, 4, 0, .ref 1), (.iconst 0, 1, 0, 0, .int 0), (.bipush 40, 2, 0, 0, .int 40)] 20 (by decide +kernel) ?_
  show isK sh v1 4 ∧ isK sh c 4 ∧ isK sh v1 4 ∧ isK sh c 4 ∧ Fx q_Ro_copyFrom 1 sh 20 [some (.ref c), some (.ref v1)] [.int 40, .int 0, .ref (c + 1), .int 0, .ref (v1 + 1)] (upI hp c 5 (hp.1 v1 5)) none res
  refine ⟨hv1.1, hS.1, hv1.1, hS.1, ?_⟩
  refine Fx.copy lk_4_31 (by decide +kernel) (by decide) (Nat.le_of_ble_eq_true rfl) (hv1.2.1) (hS.2.1) (by decide : (Int32.toNatClampNeg 40) = 40) (by decide) ⟨by decide, by decide⟩ ?_
  show Fx q_Ro_copyFrom 1 sh 23 [some (.ref c), some (.ref v1)] [] (cpA (upI hp c 5 (hp.1 v1 5)) (v1 + 1) (c + 1) 40) none res
  refine Fx.run [(.aload_n 1, 1, 1, 0, .null), (.getfield 15, 3, 4, 1, .ref 2), (.iconst 0, 1, 0, 0, .int 0), (.aload_n 0, 1, 0, 0, .null), (.getfield 15, 3, 4, 1, .ref 2), (.iconst 0, 1, 0, 0, .int 0), (.bipush 40, 2, 0, 0, .int 40)] 35 (by decide +kernel) ?_
  show isK sh v1 4 ∧ isK sh c 4 ∧ Fx q_Ro_copyFrom 1 sh 35 [some (.ref c), some (.ref v1)] [.int 40, .int 0, .ref (c + 2), .int 0, .ref (v1 + 2)] (cpA (upI hp c 5 (hp.1 v1 5)) (v1 + 1) (c + 1) 40) none res
  refine ⟨hv1.1, hS.1, ?_⟩
  refine Fx.copy lk_4_31 (by decide +kernel) (by decide) (Nat.le_of_ble_eq_true rfl) (hv1.2.2.1) (hS.2.2.1) (by decide : (Int32.toNatClampNeg 40) = 40) (by decide) ⟨by decide, by decide⟩ ?_
  show Fx q_Ro_copyFrom 1 sh 38 [some (.ref c), some (.ref v1)] [] (cpA (cpA (upI hp c 5 (hp.1 v1 5)) (v1 + 1) (c + 1) 40) (v1 + 2) (c + 2) 40) none res
  refine Fx.run [(.aload_n 1, 1, 1, 0, .null), (.getfield 18, 3, 4, 2, .ref 3), (.iconst 0, 1, 0, 0, .int 0), (.aload_n 0, 1, 0, 0, .null), (.getfield 18, 3, 4, 2, .ref 3), (.iconst 0, 1, 0, 0, .int 0), (.bipush 40, 2, 0, 0, .int 40)] 50 (by decide +kernel) ?_
  show isK sh v1 4 ∧ isK sh c 4 ∧ Fx q_Ro_copyFrom 1 sh 50 [some (.ref c), some (.ref v1)] [.int 40, .int 0, .ref (c + 3), .int 0, .ref (v1 + 3)] (cpA (cpA (upI hp c 5 (hp.1 v1 5)) (v1 + 1) (c + 1) 40) (v1 + 2) (c + 2) 40) none res
  refine ⟨hv1.1, hS.1, ?_⟩
  refine Fx.copy lk_4_31 (by decide +kernel) (by decide) (Nat.le_of_ble_eq_true rfl) (hv1.2.2.2.1) (hS.2.2.2.1) (by decide : (Int32.toNatClampNeg 40) = 40) (by decide) ⟨by decide, by decide⟩ ?_
  show Fx q_Ro_copyFrom 1 sh 53 [some (.ref c), some (.ref v1)] [] (cpA (cpA (cpA (upI hp c 5 (hp.1 v1 5)) (v1 + 1) (c + 1) 40) (v1 + 2) (c + 2) 40) (v1 + 3) (c + 3) 40) none res
  refine Fx.run [(.aload_n 1, 1, 1, 0, .null), (.getfield 21, 3, 4, 3, .ref 4), (.iconst 0, 1, 0, 0, .int 0), (.aload_n 0, 1, 0, 0, .null), (.getfield 21, 3, 4, 3, .ref 4), (.iconst 0, 1, 0, 0, .int 0), (.bipush 40, 2, 0, 0, .int 40)] 65 (by decide +kernel) ?_
  show isK sh v1 4 ∧ isK sh c 4 ∧ Fx q_Ro_copyFrom 1 sh 65 [some (.ref c), some (.ref v1)] [.int 40, .int 0, .ref (c + 4), .int 0, .ref (v1 + 4)] (cpA (cpA (cpA (upI hp c 5 (hp.1 v1 5)) (v1 + 1) (c + 1) 40) (v1 + 2) (c + 2) 40) (v1 + 3) (c + 3) 40) none res
  refine ⟨hv1.1, hS.1, ?_⟩
  refine Fx.copy lk_4_31 (by decide +kernel) (by decide) (Nat.le_of_ble_eq_true rfl) (hv1.2.2.2.2.1) (hS.2.2.2.2.1) (by decide : (Int32.toNatClampNeg 40) = 40) (by decide) ⟨by decide, by decide⟩ ?_
  show Fx q_Ro_copyFrom 1 sh 68 [some (.ref c), some (.ref v1)] [] (cpA (cpA (cpA (cpA (upI hp c 5 (hp.1 v1 5)) (v1 + 1) (c + 1) 40) (v1 + 2) (c + 2) 40) (v1 + 3) (c + 3) 40) (v1 + 4) (c + 4) 40) none res
  refine Fx.run [(.aload_n 1, 1, 1, 0, .null), (.getfield 24, 3, 4, 4, .ref 5), (.iconst 0, 1, 0, 0, .int 0), (.aload_n 0, 1, 0, 0, .null), (.getfield 24, 3, 4, 4, .ref 5), (.iconst 0, 1, 0, 0, .int 0), (.bipush 40, 2, 0, 0, .int 40)] 80 (by decide +kernel) ?_
  show isK sh v1 4 ∧ isK sh c 4 ∧ Fx q_Ro_copyFrom 1 sh 80 [some (.ref c), some (.ref v1)] [.int 40, .int 0, .ref (c + 5), .int 0, .ref (v1 + 5)] (cpA (cpA (cpA (cpA (upI hp c 5 (hp.1 v1 5)) (v1 + 1) (c + 1) 40) (v1 + 2) (c + 2) 40) (v1 + 3) (c + 3) 40) (v1 + 4) (c + 4) 40) none res
  refine ⟨hv1.1, hS.1, ?_⟩
  refine Fx.copy lk_4_31 (by decide +kernel) (by decide) (Nat.le_of_ble_eq_true rfl) (hv1.2.2.2.2.2) (hS.2.2.2.2.2) (by decide : (Int32.toNatClampNeg 40) = 40) (by decide) ⟨by decide, by decide⟩ ?_
  show Fx q_Ro_copyFrom 1 sh 83 [some (.ref c), some (.ref v1)] [] (cpA (cpA (cpA (cpA (cpA (upI hp c 5 (hp.1 v1 5)) (v1 + 1) (c + 1) 40) (v1 + 2) (c + 2) 40) (v1 + 3) (c + 3) 40) (v1 + 4) (c + 4) 40) (v1 + 5) (c + 5) 40) none res
  obtain rfl := Option.some.inj hf
  have hk : (cpA (cpA (cpA (cpA (cpA (upI hp c 5 (hp.1 v1 5)) (v1 + 1) (c + 1) 40) (v1 + 2) (c + 2) 40) (v1 + 3) (c + 3) 40) (v1 + 4) (c + 4) 40) (v1 + 5) (c + 5) 40) = res := hk
  subst hk
  exact Fx.vret (by decide +kernel) rfl
set_option maxHeartbeats 4000000 in
set_option maxRecDepth 20000 in
theorem t_Tr_copyFrom (sh : Shp) (c : Nat) (hS : S_Tr sh c) (hp : HP) (v1 : Nat) (hv1 : S_Tr sh v1) (res : HP) (hf : f_Tr_copyFrom c hp v1 = some res) : Ex 1 q_Tr_copyFrom sh [.ref c, .ref v1] hp none res := by
  refine Ex.of [some (.ref c), some (.ref v1)] rfl (Nat.le_of_ble_eq_true rfl) (by decide +kernel) rfl ?_
  obtain ⟨t, hk⟩ : ∃ t, t = res := ⟨res, rfl⟩
  rw [← hk] at hf
  unfold f_Tr_copyFrom at hf
  refine Fx.run [(.aload_n 0, 1, 0, 0, .null), (.aload_n 1, 1, 1, 0, .null), (.getfield 18, 3, 6, 2, .null), (.putfield 18, 3, 6, 2, .null), (.aload_n 1, 1, 1, 0, .null), (.getfield 9, 3, 6, 0, .ref 1), (.iconst 0, 1, 0, 0, .int 0), (.aload_n 0, 1, 0, 0, .null), (.getfield 9, 3, 6, 0, .ref 1), (.iconst 0, 1, 0, 0, .int 0), (.iconst 3, 1, 0, 0, .int 3)] 19 (by decide +kernel) ?_
  show isK sh v1 6 ∧ isK sh c 6 ∧ isK sh v1 6 ∧ isK sh c 6 ∧ Fx q_Tr_copyFrom 1 sh 19 [some (.ref c), some (.ref v1)] [.int 3, .int 0, .ref (c + 1), .int 0, .ref (v1 + 1)] (upI hp c 2 (hp.1 v1 2)) none res
  refine ⟨hv1.1, hS.1, hv1.1, hS.1, ?_⟩
  refine Fx.copy lk_6_22 (by decide +kernel) (by decide) (Nat.le_of_ble_eq_true rfl) (hv1.2.1) (hS.2.1) (by decide : (Int32.toNatClampNeg 3) = 3) (by decide) ⟨by decide, by decide⟩ ?_
  show Fx q_Tr_copyFrom 1 sh 22 [some (.ref c), some (.ref v1)] [] (cpA (upI hp c 2 (hp.1 v1 2)) (v1 + 1) (c + 1) 3) none res
  refine Fx.run [(.aload_n 1, 1, 1, 0, .null), (.getfield 15, 3, 6, 1, .ref 2), (.iconst 0, 1, 0, 0, .int 0), (.aload_n 0, 1, 0, 0, .null), (.getfield 15, 3, 6, 1, .ref 2), (.iconst 0, 1, 0, 0, .int 0), (.iconst 3, 1, 0, 0, .int 3)] 33 (by decide +kernel) ?_
  show isK sh v1 6 ∧ isK sh c 6 ∧ Fx q_Tr_copyFrom 1 sh 33 [some (.ref c), some (.ref v1)] [.int 3, .int 0, .ref (c + 2), .int 0, .ref (v1 + 2)] (cpA (upI hp c 2 (hp.1 v1 2)) (v1 + 1) (c + 1) 3) none res
  refine ⟨hv1.1, hS.1, ?_⟩
  refine Fx.copy lk_6_22 (by decide +kernel) (by decide) (Nat.le_of_ble_eq_true rfl) (hv1.2.2) (hS.2.2) (by decide : (Int32.toNatClampNeg 3) = 3) (by decide) ⟨by decide, by decide⟩ ?_
  show Fx q_Tr_copyFrom 1 sh 36 [some (.ref c), some (.ref v1)] [] (cpA (cpA (upI hp c 2 (hp.1 v1 2)) (v1 + 1) (c + 1) 3) (v1 + 2) (c + 2) 3) none res
  obtain rfl := Option.some.inj hf
  have hk : (cpA (cpA (upI hp c 2 (hp.1 v1 2)) (v1 + 1) (c + 1) 3) (v1 + 2) (c + 2) 3) = res := hk
  subst hk
  exact Fx.vret (by decide +kernel) rfl
set_option maxHeartbeats 4000000 in
set_option maxRecDepth 20000 in
theorem t_We_copyFrom (sh : Shp) (c : Nat) (hS : S_We sh c) (hp : HP) (v1 : Nat) (hv1 : S_We sh v1) (res : HP) (hf : f_We_copyFrom c hp v1 = some res) : Ex 1 q_We_copyFrom sh [.ref c, .ref v1] hp none res := by
  refine Ex.of [some (.ref c), some (.ref v1)] rfl (Nat.le_of_ble_eq_true rfl) (by decide +kernel) rfl ?_
  obtain ⟨t, hk⟩ : ∃ t, t = res := ⟨res, rfl⟩
  rw [← hk] at hf
  unfold f_We_copyFrom at hf
  refine Fx.run [(.aload_n 1, 1, 1, 0, .null), (.getfield 9, 3, 7, 0, .ref 1), (.iconst 0, 1, 0, 0, .int 0), (.aload_n 0, 1, 0, 0, .null), (.getfield 9, 3, 7, 0, .ref 1), (.iconst 0, 1, 0, 0, .int 0), (.bipush 36, 2, 0, 0, .int 36)] 12 (by decide +kernel) ?_
  show isK sh v1 7 ∧ isK sh c 7 ∧ Fx q_We_copyFrom 1 sh 12 [some (.ref c), some (.ref v1)] [.int 36, .int 0, .ref (c + 1), .int 0, .ref (v1 + 1)] hp none res
  refine ⟨hv1.1, hS.1, ?_⟩
  refine Fx.copy lk_7_21 (by decide +kernel) (by decide) (Nat.le_of_ble_eq_true rfl) (hv1.2.1) (hS.2.1) (by decide : (Int32.toNatClampNeg 36) = 36) (by decide) ⟨by decide, by decide⟩ ?_
  show Fx q_We_copyFrom 1 sh 15 [some (.ref c), some (.ref v1)] [] (cpA hp (v1 + 1) (c + 1) 36) none res
  refine Fx.run [(.aload_n 1, 1, 1, 0, .null), (.getfield 15, 3, 7, 1, .ref 2), (.iconst 0, 1, 0, 0, .int 0), (.aload_n 0, 1, 0, 0, .null), (.getfield 15, 3, 7, 1, .ref 2), (.iconst 0, 1, 0, 0, .int 0), (.bipush 36, 2, 0, 0, .int 36)] 27 (by decide +kernel) ?_
  show isK sh v1 7 ∧ isK sh c 7 ∧ Fx q_We_copyFrom 1 sh 27 [some (.ref c), some (.ref v1)] [.int 36, .int 0, .ref (c + 2), .int 0, .ref (v1 + 2)] (cpA hp (v1 + 1) (c + 1) 36) none res
  refine ⟨hv1.1, hS.1, ?_⟩
  refine Fx.copy lk_7_21 (by decide +kernel) (by decide) (Nat.le_of_ble_eq_true rfl) (hv1.2.2) (hS.2.2) (by decide : (Int32.toNatClampNeg 36) = 36) (by decide) ⟨by decide, by decide⟩ ?_
  show Fx q_We_copyFrom 1 sh 30 [some (.ref c), some (.ref v1)] [] (cpA (cpA hp (v1 + 1) (c + 1) 36) (v1 + 2) (c + 2) 36) none res
  replace hf := gd hf
  obtain ⟨g1, hf⟩ := hf
  refine Fx.run [(.aload_n 0, 1, 0, 0, .null), (.aload_n 1, 1, 1, 0, .null), (.getfield 27, 3, 7, 2, .null), (.putfield 27, 3, 7, 2, .int 1)] 38 (by decide +kernel) ?_
  show isK sh v1 7 ∧ isK sh c 7 ∧ (((cpA (cpA hp (v1 + 1) (c + 1) 36) (v1 + 2) (c + 2) 36).1 v1 2) = 0 ∨ ((cpA (cpA hp (v1 + 1) (c + 1) 36) (v1 + 2) (c + 2) 36).1 v1 2) = 1) ∧ Fx q_We_copyFrom 1 sh 38 [some (.ref c), some (.ref v1)] [] (upI (cpA (cpA hp (v1 + 1) (c + 1) 36) (v1 + 2) (c + 2) 36) c 2 ((cpA (cpA hp (v1 + 1) (c + 1) 36) (v1 + 2) (c + 2) 36).1 v1 2)) none res
  refine ⟨hv1.1, hS.1, g1, ?_⟩
  obtain rfl := Option.some.inj hf
  have hk : (upI (cpA (cpA hp (v1 + 1) (c + 1) 36) (v1 + 2) (c + 2) 36) c 2 ((cpA (cpA hp (v1 + 1) (c + 1) 36) (v1 + 2) (c + 2) 36).1 v1 2)) = res := hk
  subst hk
  exact Fx.vret (by decide +kernel) rfl
set_option maxHeartbeats 4000000 in
set_option maxRecDepth 20000 in
theorem t_St_copyFrom (sh : Shp) (c : Nat) (hS : S_St sh c) (hp : HP) (v1 : Nat) (hv1 : S_St sh v1) (res : HP) (hf : f_St_copyFrom c hp v1 = some res) : Ex 2 q_St_copyFrom sh [.ref c, .ref v1] hp none res := by
  refine Ex.of [some (.ref c), some (.ref v1)] rfl (Nat.le_of_ble_eq_true rfl) (by decide +kernel) rfl ?_
  obtain ⟨t, hk⟩ : ∃ t, t = res := ⟨res, rfl⟩
  rw [← hk] at hf
  unfold f_St_copyFrom at hf
  refine Fx.run [(.aload_n 0, 1, 0, 0, .null), (.getfield 12, 3, 5, 0, .ref 1), (.aload_n 1, 1, 1, 0, .null), (.getfield 12, 3, 5, 0, .ref 1)] 8 (by decide +kernel) ?_
  show isK sh c 5 ∧ isK sh v1 5 ∧ Fx q_St_copyFrom 2 sh 8 [some (.ref c), some (.ref v1)] [.ref (v1 + 1), .ref (c + 1)] hp none res
  refine ⟨hS.1, hv1.1, ?_⟩
  replace hf := bnd hf
  obtain ⟨h2, hr1, hf⟩ := hf
  refine Fx.callV (rr := none) (hp1 := h2) [.ref (v1 + 1)] [] lk_5_53 (by decide +kernel) (t_Ro_copyFrom sh (c + 1) (hS.2.1) hp (v1 + 1) (hv1.2.1) h2 hr1) ⟨Nat.le_of_ble_eq_true rfl, Nat.le_of_ble_eq_true rfl⟩ (hS.2.1).1 (by decide) rfl (Nat.le_of_ble_eq_true rfl) ?_
  show Fx q_St_copyFrom 2 sh 11 [some (.ref c), some (.ref v1)] [] h2 none res
  refine Fx.run [(.aload_n 0, 1, 0, 0, .null), (.getfield 18, 3, 5, 1, .ref 7), (.aload_n 1, 1, 1, 0, .null), (.getfield 18, 3, 5, 1, .ref 7)] 19 (by decide +kernel) ?_
  show isK sh c 5 ∧ isK sh v1 5 ∧ Fx q_St_copyFrom 2 sh 19 [some (.ref c), some (.ref v1)] [.ref (v1 + 7), .ref (c + 7)] h2 none res
  refine ⟨hS.1, hv1.1, ?_⟩
  replace hf := bnd hf
  obtain ⟨h4, hr3, hf⟩ := hf
  refine Fx.callV (rr := none) (hp1 := h4) [.ref (v1 + 7)] [] lk_5_53 (by decide +kernel) (t_Ro_copyFrom sh (c + 7) (hS.2.2.1) h2 (v1 + 7) (hv1.2.2.1) h4 hr3) ⟨Nat.le_of_ble_eq_true rfl, Nat.le_of_ble_eq_true rfl⟩ (hS.2.2.1).1 (by decide) rfl (Nat.le_of_ble_eq_true rfl) ?_
  show Fx q_St_copyFrom 2 sh 22 [some (.ref c), some (.ref v1)] [] h4 none res
  refine Fx.run [(.aload_n 0, 1, 0, 0, .null), (.getfield 21, 3, 5, 2, .ref 13), (.aload_n 1, 1, 1, 0, .null), (.getfield 21, 3, 5, 2, .ref 13)] 30 (by decide +kernel) ?_
  show isK sh c 5 ∧ isK sh v1 5 ∧ Fx q_St_copyFrom 2 sh 30 [some (.ref c), some (.ref v1)] [.ref (v1 + 13), .ref (c + 13)] h4 none res
  refine ⟨hS.1, hv1.1, ?_⟩
  replace hf := bnd hf
  obtain ⟨h6, hr5, hf⟩ := hf
  refine Fx.callV (rr := none) (hp1 := h6) [.ref (v1 + 13)] [] lk_5_53 (by decide +kernel) (t_Ro_copyFrom sh (c + 13) (hS.2.2.2.1) h4 (v1 + 13) (hv1.2.2.2.1) h6 hr5) ⟨Nat.le_of_ble_eq_true rfl, Nat.le_of_ble_eq_true rfl⟩ (hS.2.2.2.1).1 (by decide) rfl (Nat.le_of_ble_eq_true rfl) ?_
  show Fx q_St_copyFrom 2 sh 33 [some (.ref c), some (.ref v1)] [] h6 none res
  refine Fx.run [(.aload_n 0, 1, 0, 0, .null), (.getfield 27, 3, 5, 3, .ref 19), (.aload_n 1, 1, 1, 0, .null), (.getfield 27, 3, 5, 3, .ref 19)] 41 (by decide +kernel) ?_
  show isK sh c 5 ∧ isK sh v1 5 ∧ Fx q_St_copyFrom 2 sh 41 [some (.ref c), some (.ref v1)] [.ref (v1 + 19), .ref (c + 19)] h6 none res
  refine ⟨hS.1, hv1.1, ?_⟩
  replace hf := bnd hf
  obtain ⟨h8, hr7, hf⟩ := hf
  refine Fx.callV (rr := none) (hp1 := h8) [.ref (v1 + 19)] [] lk_5_57 (by decide +kernel) (t_Tr_copyFrom sh (c + 19) (hS.2.2.2.2.1) h6 (v1 + 19) (hv1.2.2.2.2.1) h8 hr7) ⟨Nat.le_of_ble_eq_true rfl, Nat.le_of_ble_eq_true rfl⟩ (hS.2.2.2.2.1).1 (by decide) rfl (Nat.le_of_ble_eq_true rfl) ?_
  show Fx q_St_copyFrom 2 sh 44 [some (.ref c), some (.ref v1)] [] h8 none res
  refine Fx.run [(.aload_n 0, 1, 0, 0, .null), (.getfield 34, 3, 5, 4, .ref 22), (.aload_n 1, 1, 1, 0, .null), (.getfield 34, 3, 5, 4, .ref 22)] 52 (by decide +kernel) ?_
  show isK sh c 5 ∧ isK sh v1 5 ∧ Fx q_St_copyFrom 2 sh 52 [some (.ref c), some (.ref v1)] [.ref (v1 + 22), .ref (c + 22)] h8 none res
  refine ⟨hS.1, hv1.1, ?_⟩
  replace hf := bnd hf
  obtain ⟨h10, hr9, hf⟩ := hf
  refine Fx.callV (rr := none) (hp1 := h10) [.ref (v1 + 22)] [] lk_5_60 (by decide +kernel) (t_Cu_copyFrom sh (c + 22) (hS.2.2.2.2.2.1) h8 (v1 + 22) (hv1.2.2.2.2.2.1) h10 hr9) ⟨Nat.le_of_ble_eq_true rfl, Nat.le_of_ble_eq_true rfl⟩ (hS.2.2.2.2.2.1).1 (by decide) rfl (Nat.le_of_ble_eq_true rfl) ?_
  show Fx q_St_copyFrom 2 sh 55 [some (.ref c), some (.ref v1)] [] h10 none res
  refine Fx.run [(.aload_n 0, 1, 0, 0, .null), (.getfield 41, 3, 5, 5, .ref 28), (.aload_n 1, 1, 1, 0, .null), (.getfield 41, 3, 5, 5, .ref 28)] 63 (by decide +kernel) ?_
  show isK sh c 5 ∧ isK sh v1 5 ∧ Fx q_St_copyFrom 2 sh 63 [some (.ref c), some (.ref v1)] [.ref (v1 + 28), .ref (c + 28)] h10 none res
  refine ⟨hS.1, hv1.1, ?_⟩
  replace hf := bnd hf
  obtain ⟨h12, hr11, hf⟩ := hf
  refine Fx.callV (rr := none) (hp1 := h12) [.ref (v1 + 28)] [] lk_5_63 (by decide +kernel) (t_We_copyFrom sh (c + 28) (hS.2.2.2.2.2.2) h10 (v1 + 28) (hv1.2.2.2.2.2.2) h12 hr11) ⟨Nat.le_of_ble_eq_true rfl, Nat.le_of_ble_eq_true rfl⟩ (hS.2.2.2.2.2.2).1 (by decide) rfl (Nat.le_of_ble_eq_true rfl) ?_
  show Fx q_St_copyFrom 2 sh 66 [some (.ref c), some (.ref v1)] [] h12 none res
  replace hf := gd hf
  obtain ⟨g13, hf⟩ := hf
  refine Fx.run [(.aload_n 0, 1, 0, 0, .null), (.aload_n 1, 1, 1, 0, .null), (.getfield 45, 3, 5, 6, .null), (.putfield 45, 3, 5, 6, .int 1), (.aload_n 0, 1, 0, 0, .null), (.aload_n 1, 1, 1, 0, .null), (.getfield 49, 3, 5, 7, .null), (.putfield 49, 3, 5, 7, .null)] 82 (by decide +kernel) ?_
  show isK sh v1 5 ∧ isK sh c 5 ∧ ((h12.1 v1 6) = 0 ∨ (h12.1 v1 6) = 1) ∧ isK sh v1 5 ∧ isK sh c 5 ∧ Fx q_St_copyFrom 2 sh 82 [some (.ref c), some (.ref v1)] [] (upI (upI h12 c 6 (h12.1 v1 6)) c 7 ((upI h12 c 6 (h12.1 v1 6)).1 v1 7)) none res
  refine ⟨hv1.1, hS.1, g13, hv1.1, hS.1, ?_⟩
  obtain rfl := Option.some.inj hf
  have hk : (upI (upI h12 c 6 (h12.1 v1 6)) c 7 ((upI h12 c 6 (h12.1 v1 6)).1 v1 7)) = res := hk
  subst hk
  exact Fx.vret (by decide +kernel) rfl
