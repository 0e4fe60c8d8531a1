abbrev P_Mo_liveAt_6 (sh : Shp) (c : Nat) (hp : HP) (v1 : Int32) (v2 : Int32) (v3 : Int32) (res : Int32) : (Int32 × Int32) → Prop := fun s => Fx q_Mo_liveAt 5 sh 6 [some (.ref c), some (.int v1), some (.int v2), some (.int v3), some (.int s.1), some (.int s.2)] [] hp (some (.int res)) hp
set_option maxHeartbeats 4000000 in
set_option maxRecDepth 20000 in
theorem t_Mo_liveAt_j38 (sh : Shp) (c : Nat) (hS : S_Mo sh c) (hp : HP) (v1 : Int32) (v2 : Int32) (v3 : Int32) (v5 : Int32) (s0 : Int32) (res : Int32) (t : ((Int32 × Int32) ⊕ Int32)) (hf : f_Mo_liveAt_j38 c hp v1 v2 v3 v5 s0 = some t) (hk : (Kel (P_Mo_liveAt_6 sh c hp v1 v2 v3 res) (fun v => v = res)) t) : Fx q_Mo_liveAt 5 sh 38 [some (.ref c), some (.int v1), some (.int v2), some (.int v3), none, some (.int v5)] [.int s0] hp (some (.int res)) hp := by
  unfold f_Mo_liveAt_j38 at hf
  refine Fx.run [(.aload_n 0, 1, 0, 0, .null), (.iload_n 1, 1, 1, 0, .null), (.iload 5, 2, 5, 0, .null), (.iload_n 3, 1, 3, 0, .null)] 43 (by decide +kernel) ?_
  show Fx q_Mo_liveAt 5 sh 43 [some (.ref c), some (.int v1), some (.int v2), some (.int v3), none, some (.int v5)] [.int v3, .int v5, .int v1, .ref c, .int s0] hp (some (.int res)) hp
  replace hf := bnd hf
  obtain ⟨r4, hr4, hf⟩ := hf
  refine Fx.callV (rr := (some (.int r4))) (hp1 := hp) [.int v1, .int v5, .int v3] [.int s0] lk_9_216 (by decide +kernel) (t_Mo_isLive sh c (hS) hp v1 v5 v3 r4 hr4) ⟨Nat.le_of_ble_eq_true rfl, Nat.le_of_ble_eq_true rfl⟩ (hS).1 (by decide) rfl (Nat.le_of_ble_eq_true rfl) ?_
  show Fx q_Mo_liveAt 5 sh 46 [some (.ref c), some (.int v1), some (.int v2), some (.int v3), none, some (.int v5)] [.int r4, .int s0] hp (some (.int res)) hp
  refine Fx.if_eq (7) 53 49 (by decide +kernel) (fun b5 => ?_) (fun b5 => ?_)
  · replace hf := ifp b5 hf
    refine Fx.run [(.iconst 0, 1, 0, 0, .int 0), (.iadd, 1, 0, 0, .null), (.istore 4, 2, 4, 0, .null), (.iinc 5 1, 3, 5, 0, .int 1)] 60 (by decide +kernel) ?_
    show Fx q_Mo_liveAt 5 sh 60 [some (.ref c), some (.int v1), some (.int v2), some (.int v3), some (.int (s0 + 0)), some (.int (v5 + 1))] [] hp (some (.int res)) hp
    refine Fx.goto (-54) 6 (by decide +kernel) ?_
    obtain rfl := Option.some.inj hf
    have hk : Fx q_Mo_liveAt 5 sh 6 [some (.ref c), some (.int v1), some (.int v2), some (.int v3), some (.int (s0 + 0)), some (.int (v5 + 1))] [] hp (some (.int res)) hp := hk
    exact Fx.le hk (And.intro rfl (And.intro rfl (And.intro rfl (And.intro rfl (And.intro rfl (And.intro rfl trivial))))))
  · replace hf := ifn b5 hf
    refine Fx.run [(.iconst 1, 1, 0, 0, .int 1)] 50 (by decide +kernel) ?_
    show Fx q_Mo_liveAt 5 sh 50 [some (.ref c), some (.int v1), some (.int v2), some (.int v3), none, some (.int v5)] [.int 1, .int s0] hp (some (.int res)) hp
    refine Fx.goto (4) 54 (by decide +kernel) ?_
    refine Fx.run [(.iadd, 1, 0, 0, .null), (.istore 4, 2, 4, 0, .null), (.iinc 5 1, 3, 5, 0, .int 1)] 60 (by decide +kernel) ?_
    show Fx q_Mo_liveAt 5 sh 60 [some (.ref c), some (.int v1), some (.int v2), some (.int v3), some (.int (s0 + 1)), some (.int (v5 + 1))] [] hp (some (.int res)) hp
    refine Fx.goto (-54) 6 (by decide +kernel) ?_
    obtain rfl := Option.some.inj hf
    have hk : Fx q_Mo_liveAt 5 sh 6 [some (.ref c), some (.int v1), some (.int v2), some (.int v3), some (.int (s0 + 1)), some (.int (v5 + 1))] [] hp (some (.int res)) hp := hk
    exact Fx.le hk (And.intro rfl (And.intro rfl (And.intro rfl (And.intro rfl (And.intro rfl (And.intro rfl trivial))))))
set_option maxHeartbeats 4000000 in
set_option maxRecDepth 20000 in
theorem t_Mo_liveAt_l6 (sh : Shp) (c : Nat) (hS : S_Mo sh c) (hp : HP) (v1 : Int32) (v2 : Int32) (v3 : Int32) (res : Int32) : ∀ (s : (Int32 × Int32)) (t : Int32), f_Mo_liveAt_l6 c hp v1 v2 v3 s = some t → (fun v => v = res) t → P_Mo_liveAt_6 sh c hp v1 v2 v3 res s := by
  refine loop_ind (P_Mo_liveAt_6 sh c hp v1 v2 v3 res) (fun v => v = res) ?_
  intro s t hf hk
  obtain ⟨v4, v5⟩ := s
  replace hf : f_Mo_liveAt_b6 c hp v1 v2 v3 v4 v5 = some t := hf
  show Fx q_Mo_liveAt 5 sh 6 [some (.ref c), some (.int v1), some (.int v2), some (.int v3), some (.int v4), some (.int v5)] [] hp (some (.int res)) hp
  unfold f_Mo_liveAt_b6 at hf
  replace hf := gd hf
  obtain ⟨g1, hf⟩ := hf
  refine Fx.run [(.iload 5, 2, 5, 0, .null), (.aload_n 0, 1, 0, 0, .null), (.getfield 9, 3, 9, 0, .ref 1), (.iconst 2, 1, 0, 0, .int 2), (.iload_n 1, 1, 1, 0, .null), (.iadd, 1, 0, 0, .null), (.iaload, 1, 4100, 0, .null)] 16 (by decide +kernel) ?_
  show isK sh c 9 ∧ (isA sh (c + 1) 10 4100 ∧ inb (2 + v1) 4100) ∧ Fx q_Mo_liveAt 5 sh 16 [some (.ref c), some (.int v1), some (.int v2), some (.int v3), some (.int v4), some (.int v5)] [.int (hp.1 (c + 1) (ix (2 + v1))), .int v5] hp (some (.int res)) hp
  refine ⟨hS.1, ⟨hS.2.1, g1⟩, ?_⟩
  refine Fx.icmp_ge (47) 63 19 (by decide +kernel) (fun b2 => ?_) (fun b2 => ?_)
  · replace hf := ifp b2 hf
    replace hf := mpd hf
    obtain ⟨t, hf, rfl⟩ := hf
    refine Fx.run [(.iload 4, 2, 4, 0, .null)] 65 (by decide +kernel) ?_
    show Fx q_Mo_liveAt 5 sh 65 [some (.ref c), some (.int v1), some (.int v2), some (.int v3), some (.int v4), some (.int v5)] [.int v4] hp (some (.int res)) hp
    obtain rfl := Option.some.inj hf
    have hk : v4 = res := hk
    subst hk
    exact Fx.iret (by decide +kernel) rfl
  · replace hf := ifn b2 hf
    refine Fx.run [(.iload 4, 2, 4, 0, .null), (.iload_n 2, 1, 2, 0, .null), (.iconst (-1), 1, 0, 0, .int (-1))] 23 (by decide +kernel) ?_
    show Fx q_Mo_liveAt 5 sh 23 [some (.ref c), some (.int v1), some (.int v2), some (.int v3), some (.int v4), some (.int v5)] [.int (-1), .int v2, .int v4] hp (some (.int res)) hp
    refine Fx.icmp_eq (15) 38 26 (by decide +kernel) (fun b3 => ?_) (fun b3 => ?_)
    · replace hf := ifp b3 hf
      have hl := t_Mo_liveAt_j38 sh c hS hp v1 v2 v3 v5 v4 res _ hf hk
      exact Fx.le hl (And.intro rfl (And.intro rfl (And.intro rfl (And.intro rfl (And.intro rfl trivial)))))
    · replace hf := ifn b3 hf
      refine Fx.run [(.aload_n 0, 1, 0, 0, .null), (.iload_n 1, 1, 1, 0, .null), (.iload 5, 2, 5, 0, .null), (.iconst 1, 1, 0, 0, .int 1)] 31 (by decide +kernel) ?_
      show Fx q_Mo_liveAt 5 sh 31 [some (.ref c), some (.int v1), some (.int v2), some (.int v3), some (.int v4), some (.int v5)] [.int 1, .int v5, .int v1, .ref c, .int v4] hp (some (.int res)) hp
      replace hf := bnd hf
      obtain ⟨r6, hr6, hf⟩ := hf
      refine Fx.callV (rr := (some (.int r6))) (hp1 := hp) [.int v1, .int v5, .int 1] [.int v4] lk_9_44 (by decide +kernel) (t_Mo_of sh c (hS) hp v1 v5 1 r6 hr6) ⟨Nat.le_of_ble_eq_true rfl, Nat.le_of_ble_eq_true rfl⟩ (hS).1 (by decide) rfl (Nat.le_of_ble_eq_true rfl) ?_
      show Fx q_Mo_liveAt 5 sh 34 [some (.ref c), some (.int v1), some (.int v2), some (.int v3), some (.int v4), some (.int v5)] [.int r6, .int v4] hp (some (.int res)) hp
      refine Fx.run [(.iload_n 2, 1, 2, 0, .null)] 35 (by decide +kernel) ?_
      show Fx q_Mo_liveAt 5 sh 35 [some (.ref c), some (.int v1), some (.int v2), some (.int v3), some (.int v4), some (.int v5)] [.int v2, .int r6, .int v4] hp (some (.int res)) hp
      refine Fx.icmp_ne (18) 53 38 (by decide +kernel) (fun b7 => ?_) (fun b7 => ?_)
      · replace hf := ifn b7 hf
        refine Fx.run [(.iconst 0, 1, 0, 0, .int 0), (.iadd, 1, 0, 0, .null), (.istore 4, 2, 4, 0, .null), (.iinc 5 1, 3, 5, 0, .int 1)] 60 (by decide +kernel) ?_
        show Fx q_Mo_liveAt 5 sh 60 [some (.ref c), some (.int v1), some (.int v2), some (.int v3), some (.int (v4 + 0)), some (.int (v5 + 1))] [] hp (some (.int res)) hp
        refine Fx.goto (-54) 6 (by decide +kernel) ?_
        obtain rfl := Option.some.inj hf
        have hk : Fx q_Mo_liveAt 5 sh 6 [some (.ref c), some (.int v1), some (.int v2), some (.int v3), some (.int (v4 + 0)), some (.int (v5 + 1))] [] hp (some (.int res)) hp := hk
        exact Fx.le hk (And.intro rfl (And.intro rfl (And.intro rfl (And.intro rfl (And.intro rfl (And.intro rfl trivial))))))
      · replace hf := ifp b7 hf
        have hl := t_Mo_liveAt_j38 sh c hS hp v1 v2 v3 v5 v4 res _ hf hk
        exact Fx.le hl (And.intro rfl (And.intro rfl (And.intro rfl (And.intro rfl (And.intro rfl trivial)))))
set_option maxHeartbeats 4000000 in
set_option maxRecDepth 20000 in
theorem t_Mo_liveAt (sh : Shp) (c : Nat) (hS : S_Mo sh c) (hp : HP) (v1 : Int32) (v2 : Int32) (v3 : Int32) (res : Int32) (hf : f_Mo_liveAt c hp v1 v2 v3 = some res) : Ex 5 q_Mo_liveAt sh [.ref c, .int v1, .int v2, .int v3] hp (some (.int res)) hp := by
  refine Ex.of [some (.ref c), some (.int v1), some (.int v2), some (.int v3), none, none] rfl (Nat.le_of_ble_eq_true rfl) (by decide +kernel) rfl ?_
  obtain ⟨t, hk⟩ : ∃ t, t = res := ⟨res, rfl⟩
  rw [← hk] at hf
  unfold f_Mo_liveAt at hf
  refine Fx.run [(.iconst 0, 1, 0, 0, .int 0), (.istore 4, 2, 4, 0, .null), (.iconst 0, 1, 0, 0, .int 0), (.istore 5, 2, 5, 0, .null)] 6 (by decide +kernel) ?_
  show Fx q_Mo_liveAt 5 sh 6 [some (.ref c), some (.int v1), some (.int v2), some (.int v3), some (.int 0), some (.int 0)] [] hp (some (.int res)) hp
  have hl := t_Mo_liveAt_l6 sh c hS hp v1 v2 v3 res (0, 0) _ hf hk
  have hl : Fx q_Mo_liveAt 5 sh 6 [some (.ref c), some (.int v1), some (.int v2), some (.int v3), some (.int 0), some (.int 0)] [] hp (some (.int res)) hp := hl
  exact Fx.le hl (And.intro rfl (And.intro rfl (And.intro rfl (And.intro rfl (And.intro rfl (And.intro rfl trivial))))))
set_option maxHeartbeats 4000000 in
set_option maxRecDepth 20000 in
theorem t_Mo_live_j19 (sh : Shp) (c : Nat) (hS : S_Mo sh c) (hp : HP) (v1 : Int32) (v2 : Int32) (v3 : Int32)  (res : Int32) (t : Int32) (hf : f_Mo_live_j19 c hp v1 v2 v3  = some t) (hk : (fun v => v = res) t) : Fx q_Mo_live 6 sh 19 [some (.ref c), some (.int v1), some (.int v2), some (.int v3)] [] hp (some (.int res)) hp := by
  unfold f_Mo_live_j19 at hf
  refine Fx.run [(.iload_n 3, 1, 3, 0, .null), (.ldc 92, 2, 0, 0, .int (-1000000)), (.ldc 93, 2, 0, 0, .int 1000000)] 24 (by decide +kernel) ?_
  show Fx q_Mo_live 6 sh 24 [some (.ref c), some (.int v1), some (.int v2), some (.int v3)] [.int 1000000, .int (-1000000), .int v3] hp (some (.int res)) hp
  replace hf := bnd hf
  obtain ⟨r4, hr4, hf⟩ := hf
  refine Fx.callS (rr := (some (.int r4))) (hp1 := hp) [.int v3, .int (-1000000), .int 1000000] [] lk_9_48 (by decide +kernel) (t_Mo_isIn sh hp v3 (-1000000) 1000000 r4 hr4) ⟨Nat.le_of_ble_eq_true rfl, Nat.le_of_ble_eq_true rfl⟩ rfl (Nat.le_of_ble_eq_true rfl) ?_
  show Fx q_Mo_live 6 sh 27 [some (.ref c), some (.int v1), some (.int v2), some (.int v3)] [.int r4] hp (some (.int res)) hp
  refine Fx.if_eq (15) 42 30 (by decide +kernel) (fun b5 => ?_) (fun b5 => ?_)
  · replace hf := ifp b5 hf
    refine Fx.run [(.iconst (-1), 1, 0, 0, .int (-1))] 43 (by decide +kernel) ?_
    show Fx q_Mo_live 6 sh 43 [some (.ref c), some (.int v1), some (.int v2), some (.int v3)] [.int (-1)] hp (some (.int res)) hp
    obtain rfl := Option.some.inj hf
    have hk : (-1) = res := hk
    subst hk
    exact Fx.iret (by decide +kernel) rfl
  · replace hf := ifn b5 hf
    refine Fx.run [(.aload_n 0, 1, 0, 0, .null), (.iload_n 1, 1, 1, 0, .null), (.iload_n 2, 1, 2, 0, .null), (.iconst 2, 1, 0, 0, .int 2), (.iload_n 3, 1, 3, 0, .null), (.imul, 1, 0, 0, .null)] 36 (by decide +kernel) ?_
    show Fx q_Mo_live 6 sh 36 [some (.ref c), some (.int v1), some (.int v2), some (.int v3)] [.int (2 * v3), .int v2, .int v1, .ref c] hp (some (.int res)) hp
    replace hf := bnd hf
    obtain ⟨r6, hr6, hf⟩ := hf
    refine Fx.callV (rr := (some (.int r6))) (hp1 := hp) [.int v1, .int v2, .int (2 * v3)] [] lk_9_219 (by decide +kernel) (t_Mo_liveAt sh c (hS) hp v1 v2 (2 * v3) r6 hr6) ⟨Nat.le_of_ble_eq_true rfl, Nat.le_of_ble_eq_true rfl⟩ (hS).1 (by decide) rfl (Nat.le_of_ble_eq_true rfl) ?_
    show Fx q_Mo_live 6 sh 39 [some (.ref c), some (.int v1), some (.int v2), some (.int v3)] [.int r6] hp (some (.int res)) hp
    refine Fx.goto (4) 43 (by decide +kernel) ?_
    obtain rfl := Option.some.inj hf
    have hk : r6 = res := hk
    subst hk
    exact Fx.iret (by decide +kernel) rfl
set_option maxHeartbeats 4000000 in
set_option maxRecDepth 20000 in
theorem t_Mo_live (sh : Shp) (c : Nat) (hS : S_Mo sh c) (hp : HP) (v1 : Int32) (v2 : Int32) (v3 : Int32) (res : Int32) (hf : f_Mo_live c hp v1 v2 v3 = some res) : Ex 6 q_Mo_live sh [.ref c, .int v1, .int v2, .int v3] hp (some (.int res)) hp := by
  refine Ex.of [some (.ref c), some (.int v1), some (.int v2), some (.int v3)] rfl (Nat.le_of_ble_eq_true rfl) (by decide +kernel) rfl ?_
  obtain ⟨t, hk⟩ : ∃ t, t = res := ⟨res, rfl⟩
  rw [← hk] at hf
  unfold f_Mo_live at hf
  refine Fx.run [(.iload_n 1, 1, 1, 0, .null)] 1 (by decide +kernel) ?_
  show Fx q_Mo_live 6 sh 1 [some (.ref c), some (.int v1), some (.int v2), some (.int v3)] [.int v1] hp (some (.int res)) hp
  replace hf := bnd hf
  obtain ⟨r1, hr1, hf⟩ := hf
  refine Fx.callS (rr := (some (.int r1))) (hp1 := hp) [.int v1] [] lk_9_52 (by decide +kernel) (t_Mo_isSide sh hp v1 r1 hr1) ⟨Nat.le_of_ble_eq_true rfl, Nat.le_of_ble_eq_true rfl⟩ rfl (Nat.le_of_ble_eq_true rfl) ?_
  show Fx q_Mo_live 6 sh 4 [some (.ref c), some (.int v1), some (.int v2), some (.int v3)] [.int r1] hp (some (.int res)) hp
  refine Fx.if_eq (38) 42 7 (by decide +kernel) (fun b2 => ?_) (fun b2 => ?_)
  · replace hf := ifp b2 hf
    refine Fx.run [(.iconst (-1), 1, 0, 0, .int (-1))] 43 (by decide +kernel) ?_
    show Fx q_Mo_live 6 sh 43 [some (.ref c), some (.int v1), some (.int v2), some (.int v3)] [.int (-1)] hp (some (.int res)) hp
    obtain rfl := Option.some.inj hf
    have hk : (-1) = res := hk
    subst hk
    exact Fx.iret (by decide +kernel) rfl
  · replace hf := ifn b2 hf
    refine Fx.run [(.iload_n 2, 1, 2, 0, .null), (.iconst (-1), 1, 0, 0, .int (-1))] 9 (by decide +kernel) ?_
    show Fx q_Mo_live 6 sh 9 [some (.ref c), some (.int v1), some (.int v2), some (.int v3)] [.int (-1), .int v2] hp (some (.int res)) hp
    refine Fx.icmp_eq (10) 19 12 (by decide +kernel) (fun b3 => ?_) (fun b3 => ?_)
    · replace hf := ifp b3 hf
      have hl := t_Mo_live_j19 sh c hS hp v1 v2 v3  res _ hf hk
      exact Fx.le hl (And.intro rfl (And.intro rfl (And.intro rfl (And.intro rfl trivial))))
    · replace hf := ifn b3 hf
      refine Fx.run [(.iload_n 2, 1, 2, 0, .null)] 13 (by decide +kernel) ?_
      show Fx q_Mo_live 6 sh 13 [some (.ref c), some (.int v1), some (.int v2), some (.int v3)] [.int v2] hp (some (.int res)) hp
      replace hf := bnd hf
      obtain ⟨r7, hr7, hf⟩ := hf
      refine Fx.callS (rr := (some (.int r7))) (hp1 := hp) [.int v2] [] lk_9_94 (by decide +kernel) (t_Mo_isKey sh hp v2 r7 hr7) ⟨Nat.le_of_ble_eq_true rfl, Nat.le_of_ble_eq_true rfl⟩ rfl (Nat.le_of_ble_eq_true rfl) ?_
      show Fx q_Mo_live 6 sh 16 [some (.ref c), some (.int v1), some (.int v2), some (.int v3)] [.int r7] hp (some (.int res)) hp
      refine Fx.if_eq (26) 42 19 (by decide +kernel) (fun b8 => ?_) (fun b8 => ?_)
      · replace hf := ifp b8 hf
        refine Fx.run [(.iconst (-1), 1, 0, 0, .int (-1))] 43 (by decide +kernel) ?_
        show Fx q_Mo_live 6 sh 43 [some (.ref c), some (.int v1), some (.int v2), some (.int v3)] [.int (-1)] hp (some (.int res)) hp
        obtain rfl := Option.some.inj hf
        have hk : (-1) = res := hk
        subst hk
        exact Fx.iret (by decide +kernel) rfl
      · replace hf := ifn b8 hf
        have hl := t_Mo_live_j19 sh c hS hp v1 v2 v3  res _ hf hk
        exact Fx.le hl (And.intro rfl (And.intro rfl (And.intro rfl (And.intro rfl trivial))))
abbrev P_Mo_crowd_27 (sh : Shp) (c : Nat) (hp : HP) (v1 : Int32) (v2 : Int32) (res : Int32) : (Int32 × Int32 × Int32) → Prop := fun s => Fx q_Mo_crowd 6 sh 27 [some (.ref c), some (.int v1), some (.int v2), some (.int s.1), some (.int s.2.1), some (.int s.2.2), none, none, none] [] hp (some (.int res)) hp
abbrev P_Mo_crowd_36 (sh : Shp) (c : Nat) (hp : HP) (v1 : Int32) (v2 : Int32) (v5 : Int32) (res : Int32) : (Int32 × Int32 × Int32) → Prop := fun s => Fx q_Mo_crowd 6 sh 36 [some (.ref c), some (.int v1), some (.int v2), some (.int s.1), some (.int s.2.1), some (.int v5), some (.int s.2.2), none, none] [] hp (some (.int res)) hp
set_option maxHeartbeats 4000000 in
set_option maxRecDepth 20000 in
theorem t_Mo_crowd_j120 (sh : Shp) (c : Nat) (hS : S_Mo sh c) (hp : HP) (v1 : Int32) (v2 : Int32) (v5 : Int32) (v6 : Int32) (v7 : Int32) (v8 : Int32)  (res : Int32) (t : ((Int32 × Int32 × Int32) ⊕ ((Int32 × Int32 × Int32) ⊕ Int32))) (hf : f_Mo_crowd_j120 c hp v1 v2 v5 v6 v7 v8  = some t) (hk : (Kel (P_Mo_crowd_36 sh c hp v1 v2 v5 res) (Kel (P_Mo_crowd_27 sh c hp v1 v2 res) (fun v => v = res))) t) : Fx q_Mo_crowd 6 sh 120 [some (.ref c), some (.int v1), some (.int v2), none, none, some (.int v5), some (.int v6), some (.int v7), some (.int v8)] [] hp (some (.int res)) hp := by
  unfold f_Mo_crowd_j120 at hf
  refine Fx.run [(.iload 8, 2, 8, 0, .null), (.istore_n 3, 1, 3, 0, .null), (.iload 7, 2, 7, 0, .null)] 125 (by decide +kernel) ?_
  show Fx q_Mo_crowd 6 sh 125 [some (.ref c), some (.int v1), some (.int v2), some (.int v8), none, some (.int v5), some (.int v6), some (.int v7), some (.int v8)] [.int v7] hp (some (.int res)) hp
  replace hf := bnd hf
  obtain ⟨r16, hr16, hf⟩ := hf
  refine Fx.callS (rr := (some (.int r16))) (hp1 := hp) [.int v7] [] lk_9_164 (by decide +kernel) (t_Mo_time sh hp v7 r16 hr16) ⟨Nat.le_of_ble_eq_true rfl, Nat.le_of_ble_eq_true rfl⟩ rfl (Nat.le_of_ble_eq_true rfl) ?_
  show Fx q_Mo_crowd 6 sh 128 [some (.ref c), some (.int v1), some (.int v2), some (.int v8), none, some (.int v5), some (.int v6), some (.int v7), some (.int v8)] [.int r16] hp (some (.int res)) hp
  refine Fx.run [(.istore 4, 2, 4, 0, .null), (.iinc 6 1, 3, 6, 0, .int 1)] 133 (by decide +kernel) ?_
  show Fx q_Mo_crowd 6 sh 133 [some (.ref c), some (.int v1), some (.int v2), some (.int v8), some (.int r16), some (.int v5), some (.int (v6 + 1)), some (.int v7), some (.int v8)] [] hp (some (.int res)) hp
  refine Fx.goto (-97) 36 (by decide +kernel) ?_
  obtain rfl := Option.some.inj hf
  have hk : Fx q_Mo_crowd 6 sh 36 [some (.ref c), some (.int v1), some (.int v2), some (.int v8), some (.int r16), some (.int v5), some (.int (v6 + 1)), none, none] [] hp (some (.int res)) hp := hk
  exact Fx.le hk (And.intro rfl (And.intro rfl (And.intro rfl (And.intro rfl (And.intro rfl (And.intro rfl (And.intro rfl trivial)))))))
set_option maxHeartbeats 4000000 in
set_option maxRecDepth 20000 in
theorem t_Mo_crowd_l36 (sh : Shp) (c : Nat) (hS : S_Mo sh c) (hp : HP) (v1 : Int32) (v2 : Int32) (v5 : Int32) (res : Int32) : ∀ (s : (Int32 × Int32 × Int32)) (t : ((Int32 × Int32 × Int32) ⊕ Int32)), f_Mo_crowd_l36 c hp v1 v2 v5 s = some t → (Kel (P_Mo_crowd_27 sh c hp v1 v2 res) (fun v => v = res)) t → P_Mo_crowd_36 sh c hp v1 v2 v5 res s := by
  refine loop_ind (P_Mo_crowd_36 sh c hp v1 v2 v5 res) (Kel (P_Mo_crowd_27 sh c hp v1 v2 res) (fun v => v = res)) ?_
  intro s t hf hk
  obtain ⟨v3, v4, v6⟩ := s
  replace hf : f_Mo_crowd_b36 c hp v1 v2 v5 v3 v4 v6 = some t := hf
  show Fx q_Mo_crowd 6 sh 36 [some (.ref c), some (.int v1), some (.int v2), some (.int v3), some (.int v4), some (.int v5), some (.int v6), none, none] [] hp (some (.int res)) hp
  unfold f_Mo_crowd_b36 at hf
  replace hf := gd hf
  obtain ⟨g7, hf⟩ := hf
  refine Fx.run [(.iload 6, 2, 6, 0, .null), (.aload_n 0, 1, 0, 0, .null), (.getfield 9, 3, 9, 0, .ref 1), (.iconst 2, 1, 0, 0, .int 2), (.iload 5, 2, 5, 0, .null), (.iadd, 1, 0, 0, .null), (.iaload, 1, 4100, 0, .null)] 47 (by decide +kernel) ?_
  show isK sh c 9 ∧ (isA sh (c + 1) 10 4100 ∧ inb (2 + v5) 4100) ∧ Fx q_Mo_crowd 6 sh 47 [some (.ref c), some (.int v1), some (.int v2), some (.int v3), some (.int v4), some (.int v5), some (.int v6), none, none] [.int (hp.1 (c + 1) (ix (2 + v5))), .int v6] hp (some (.int res)) hp
  refine ⟨hS.1, ⟨hS.2.1, g7⟩, ?_⟩
  refine Fx.icmp_ge (89) 136 50 (by decide +kernel) (fun b8 => ?_) (fun b8 => ?_)
  · replace hf := ifp b8 hf
    replace hf := mpd hf
    obtain ⟨t, hf, rfl⟩ := hf
    refine Fx.run [(.iinc 5 1, 3, 5, 0, .int 1)] 139 (by decide +kernel) ?_
    show Fx q_Mo_crowd 6 sh 139 [some (.ref c), some (.int v1), some (.int v2), some (.int v3), some (.int v4), some (.int (v5 + 1)), some (.int v6), none, none] [] hp (some (.int res)) hp
    refine Fx.goto (-112) 27 (by decide +kernel) ?_
    obtain rfl := Option.some.inj hf
    have hk : Fx q_Mo_crowd 6 sh 27 [some (.ref c), some (.int v1), some (.int v2), some (.int v3), some (.int v4), some (.int (v5 + 1)), none, none, none] [] hp (some (.int res)) hp := hk
    exact Fx.le hk (And.intro rfl (And.intro rfl (And.intro rfl (And.intro rfl (And.intro rfl (And.intro rfl trivial))))))
  · replace hf := ifn b8 hf
    refine Fx.run [(.aload_n 0, 1, 0, 0, .null), (.iload 5, 2, 5, 0, .null), (.iload 6, 2, 6, 0, .null), (.iconst 1, 1, 0, 0, .int 1)] 56 (by decide +kernel) ?_
    show Fx q_Mo_crowd 6 sh 56 [some (.ref c), some (.int v1), some (.int v2), some (.int v3), some (.int v4), some (.int v5), some (.int v6), none, none] [.int 1, .int v6, .int v5, .ref c] hp (some (.int res)) hp
    replace hf := bnd hf
    obtain ⟨r9, hr9, hf⟩ := hf
    refine Fx.callV (rr := (some (.int r9))) (hp1 := hp) [.int v5, .int v6, .int 1] [] lk_9_44 (by decide +kernel) (t_Mo_of sh c (hS) hp v5 v6 1 r9 hr9) ⟨Nat.le_of_ble_eq_true rfl, Nat.le_of_ble_eq_true rfl⟩ (hS).1 (by decide) rfl (Nat.le_of_ble_eq_true rfl) ?_
    show Fx q_Mo_crowd 6 sh 59 [some (.ref c), some (.int v1), some (.int v2), some (.int v3), some (.int v4), some (.int v5), some (.int v6), none, none] [.int r9] hp (some (.int res)) hp
    refine Fx.run [(.iload_n 1, 1, 1, 0, .null)] 60 (by decide +kernel) ?_
    show Fx q_Mo_crowd 6 sh 60 [some (.ref c), some (.int v1), some (.int v2), some (.int v3), some (.int v4), some (.int v5), some (.int v6), none, none] [.int v1, .int r9] hp (some (.int res)) hp
    refine Fx.icmp_eq (6) 66 63 (by decide +kernel) (fun b10 => ?_) (fun b10 => ?_)
    · replace hf := ifp b10 hf
      refine Fx.run [(.aload_n 0, 1, 0, 0, .null), (.iload 5, 2, 5, 0, .null), (.iload 6, 2, 6, 0, .null)] 71 (by decide +kernel) ?_
      show Fx q_Mo_crowd 6 sh 71 [some (.ref c), some (.int v1), some (.int v2), some (.int v3), some (.int v4), some (.int v5), some (.int v6), none, none] [.int v6, .int v5, .ref c] hp (some (.int res)) hp
      replace hf := bnd hf
      obtain ⟨r11, hr11, hf⟩ := hf
      refine Fx.callV (rr := (some (.int r11))) (hp1 := hp) [.int v5, .int v6] [] lk_9_56 (by decide +kernel) (t_Mo_startOf sh c (hS) hp v5 v6 r11 hr11) ⟨Nat.le_of_ble_eq_true rfl, Nat.le_of_ble_eq_true rfl⟩ (hS).1 (by decide) rfl (Nat.le_of_ble_eq_true rfl) ?_
      show Fx q_Mo_crowd 6 sh 74 [some (.ref c), some (.int v1), some (.int v2), some (.int v3), some (.int v4), some (.int v5), some (.int v6), none, none] [.int r11] hp (some (.int res)) hp
      refine Fx.run [(.istore 7, 2, 7, 0, .null), (.aload_n 0, 1, 0, 0, .null), (.iconst 0, 1, 0, 0, .int 0), (.iload_n 1, 1, 1, 0, .null), (.iload 7, 2, 7, 0, .null)] 81 (by decide +kernel) ?_
      show Fx q_Mo_crowd 6 sh 81 [some (.ref c), some (.int v1), some (.int v2), some (.int v3), some (.int v4), some (.int v5), some (.int v6), some (.int r11), none] [.int r11, .int v1, .int 0, .ref c] hp (some (.int res)) hp
      replace hf := bnd hf
      obtain ⟨r12, hr12, hf⟩ := hf
      refine Fx.callV (rr := (some (.int r12))) (hp1 := hp) [.int 0, .int v1, .int r11] [] lk_9_219 (by decide +kernel) (t_Mo_liveAt sh c (hS) hp 0 v1 r11 r12 hr12) ⟨Nat.le_of_ble_eq_true rfl, Nat.le_of_ble_eq_true rfl⟩ (hS).1 (by decide) rfl (Nat.le_of_ble_eq_true rfl) ?_
      show Fx q_Mo_crowd 6 sh 84 [some (.ref c), some (.int v1), some (.int v2), some (.int v3), some (.int v4), some (.int v5), some (.int v6), some (.int r11), none] [.int r12] hp (some (.int res)) hp
      refine Fx.run [(.aload_n 0, 1, 0, 0, .null), (.iconst 1, 1, 0, 0, .int 1), (.iload_n 1, 1, 1, 0, .null), (.iload 7, 2, 7, 0, .null)] 89 (by decide +kernel) ?_
      show Fx q_Mo_crowd 6 sh 89 [some (.ref c), some (.int v1), some (.int v2), some (.int v3), some (.int v4), some (.int v5), some (.int v6), some (.int r11), none] [.int r11, .int v1, .int 1, .ref c, .int r12] hp (some (.int res)) hp
      replace hf := bnd hf
      obtain ⟨r13, hr13, hf⟩ := hf
      refine Fx.callV (rr := (some (.int r13))) (hp1 := hp) [.int 1, .int v1, .int r11] [.int r12] lk_9_219 (by decide +kernel) (t_Mo_liveAt sh c (hS) hp 1 v1 r11 r13 hr13) ⟨Nat.le_of_ble_eq_true rfl, Nat.le_of_ble_eq_true rfl⟩ (hS).1 (by decide) rfl (Nat.le_of_ble_eq_true rfl) ?_
      show Fx q_Mo_crowd 6 sh 92 [some (.ref c), some (.int v1), some (.int v2), some (.int v3), some (.int v4), some (.int v5), some (.int v6), some (.int r11), none] [.int r13, .int r12] hp (some (.int res)) hp
      refine Fx.run [(.iadd, 1, 0, 0, .null), (.istore 8, 2, 8, 0, .null), (.iload 8, 2, 8, 0, .null), (.iload_n 3, 1, 3, 0, .null)] 98 (by decide +kernel) ?_
      show Fx q_Mo_crowd 6 sh 98 [some (.ref c), some (.int v1), some (.int v2), some (.int v3), some (.int v4), some (.int v5), some (.int v6), some (.int r11), some (.int (r12 + r13))] [.int v3, .int (r12 + r13)] hp (some (.int res)) hp
      refine Fx.icmp_lt (32) 130 101 (by decide +kernel) (fun b14 => ?_) (fun b14 => ?_)
      · replace hf := ifp b14 hf
        refine Fx.run [(.iinc 6 1, 3, 6, 0, .int 1)] 133 (by decide +kernel) ?_
        show Fx q_Mo_crowd 6 sh 133 [some (.ref c), some (.int v1), some (.int v2), some (.int v3), some (.int v4), some (.int v5), some (.int (v6 + 1)), some (.int r11), some (.int (r12 + r13))] [] hp (some (.int res)) hp
        refine Fx.goto (-97) 36 (by decide +kernel) ?_
        obtain rfl := Option.some.inj hf
        have hk : Fx q_Mo_crowd 6 sh 36 [some (.ref c), some (.int v1), some (.int v2), some (.int v3), some (.int v4), some (.int v5), some (.int (v6 + 1)), none, none] [] hp (some (.int res)) hp := hk
        exact Fx.le hk (And.intro rfl (And.intro rfl (And.intro rfl (And.intro rfl (And.intro rfl (And.intro rfl (And.intro rfl trivial)))))))
      · replace hf := ifn b14 hf
        refine Fx.run [(.iload 8, 2, 8, 0, .null), (.iload_n 3, 1, 3, 0, .null)] 104 (by decide +kernel) ?_
        show Fx q_Mo_crowd 6 sh 104 [some (.ref c), some (.int v1), some (.int v2), some (.int v3), some (.int v4), some (.int v5), some (.int v6), some (.int r11), some (.int (r12 + r13))] [.int v3, .int (r12 + r13)] hp (some (.int res)) hp
        refine Fx.icmp_ne (16) 120 107 (by decide +kernel) (fun b15 => ?_) (fun b15 => ?_)
        · replace hf := ifn b15 hf
          have hl := t_Mo_crowd_j120 sh c hS hp v1 v2 v5 v6 r11 (r12 + r13)  res _ hf hk
          exact Fx.le hl (And.intro rfl (And.intro rfl (And.intro rfl (And.intro rfl (And.intro rfl (And.intro rfl (And.intro rfl trivial)))))))
        · replace hf := ifp b15 hf
          refine Fx.run [(.iload 7, 2, 7, 0, .null)] 109 (by decide +kernel) ?_
          show Fx q_Mo_crowd 6 sh 109 [some (.ref c), some (.int v1), some (.int v2), some (.int v3), some (.int v4), some (.int v5), some (.int v6), some (.int r11), some (.int (r12 + r13))] [.int r11] hp (some (.int res)) hp
          replace hf := bnd hf
          obtain ⟨r17, hr17, hf⟩ := hf
          refine Fx.callS (rr := (some (.int r17))) (hp1 := hp) [.int r11] [] lk_9_164 (by decide +kernel) (t_Mo_time sh hp r11 r17 hr17) ⟨Nat.le_of_ble_eq_true rfl, Nat.le_of_ble_eq_true rfl⟩ rfl (Nat.le_of_ble_eq_true rfl) ?_
          show Fx q_Mo_crowd 6 sh 112 [some (.ref c), some (.int v1), some (.int v2), some (.int v3), some (.int v4), some (.int v5), some (.int v6), some (.int r11), some (.int (r12 + r13))] [.int r17] hp (some (.int res)) hp
          refine Fx.run [(.iload 4, 2, 4, 0, .null)] 114 (by decide +kernel) ?_
          show Fx q_Mo_crowd 6 sh 114 [some (.ref c), some (.int v1), some (.int v2), some (.int v3), some (.int v4), some (.int v5), some (.int v6), some (.int r11), some (.int (r12 + r13))] [.int v4, .int r17] hp (some (.int res)) hp
          refine Fx.icmp_lt (6) 120 117 (by decide +kernel) (fun b18 => ?_) (fun b18 => ?_)
          · replace hf := ifp b18 hf
            have hl := t_Mo_crowd_j120 sh c hS hp v1 v2 v5 v6 r11 (r12 + r13)  res _ hf hk
            exact Fx.le hl (And.intro rfl (And.intro rfl (And.intro rfl (And.intro rfl (And.intro rfl (And.intro rfl (And.intro rfl trivial)))))))
          · replace hf := ifn b18 hf
            refine Fx.goto (13) 130 (by decide +kernel) ?_
            refine Fx.run [(.iinc 6 1, 3, 6, 0, .int 1)] 133 (by decide +kernel) ?_
            show Fx q_Mo_crowd 6 sh 133 [some (.ref c), some (.int v1), some (.int v2), some (.int v3), some (.int v4), some (.int v5), some (.int (v6 + 1)), some (.int r11), some (.int (r12 + r13))] [] hp (some (.int res)) hp
            refine Fx.goto (-97) 36 (by decide +kernel) ?_
            obtain rfl := Option.some.inj hf
            have hk : Fx q_Mo_crowd 6 sh 36 [some (.ref c), some (.int v1), some (.int v2), some (.int v3), some (.int v4), some (.int v5), some (.int (v6 + 1)), none, none] [] hp (some (.int res)) hp := hk
            exact Fx.le hk (And.intro rfl (And.intro rfl (And.intro rfl (And.intro rfl (And.intro rfl (And.intro rfl (And.intro rfl trivial)))))))
    · replace hf := ifn b10 hf
      refine Fx.goto (67) 130 (by decide +kernel) ?_
      refine Fx.run [(.iinc 6 1, 3, 6, 0, .int 1)] 133 (by decide +kernel) ?_
      show Fx q_Mo_crowd 6 sh 133 [some (.ref c), some (.int v1), some (.int v2), some (.int v3), some (.int v4), some (.int v5), some (.int (v6 + 1)), none, none] [] hp (some (.int res)) hp
      refine Fx.goto (-97) 36 (by decide +kernel) ?_
      obtain rfl := Option.some.inj hf
      have hk : Fx q_Mo_crowd 6 sh 36 [some (.ref c), some (.int v1), some (.int v2), some (.int v3), some (.int v4), some (.int v5), some (.int (v6 + 1)), none, none] [] hp (some (.int res)) hp := hk
      exact Fx.le hk (And.intro rfl (And.intro rfl (And.intro rfl (And.intro rfl (And.intro rfl (And.intro rfl (And.intro rfl trivial)))))))
set_option maxHeartbeats 4000000 in
set_option maxRecDepth 20000 in
theorem t_Mo_crowd_l27 (sh : Shp) (c : Nat) (hS : S_Mo sh c) (hp : HP) (v1 : Int32) (v2 : Int32) (res : Int32) : ∀ (s : (Int32 × Int32 × Int32)) (t : Int32), f_Mo_crowd_l27 c hp v1 v2 s = some t → (fun v => v = res) t → P_Mo_crowd_27 sh c hp v1 v2 res s := by
  refine loop_ind (P_Mo_crowd_27 sh c hp v1 v2 res) (fun v => v = res) ?_
  intro s t hf hk
  obtain ⟨v3, v4, v5⟩ := s
  replace hf : f_Mo_crowd_b27 c hp v1 v2 v3 v4 v5 = some t := hf
  show Fx q_Mo_crowd 6 sh 27 [some (.ref c), some (.int v1), some (.int v2), some (.int v3), some (.int v4), some (.int v5), none, none, none] [] hp (some (.int res)) hp
  unfold f_Mo_crowd_b27 at hf
  refine Fx.run [(.iload 5, 2, 5, 0, .null), (.iconst 2, 1, 0, 0, .int 2)] 30 (by decide +kernel) ?_
  show Fx q_Mo_crowd 6 sh 30 [some (.ref c), some (.int v1), some (.int v2), some (.int v3), some (.int v4), some (.int v5), none, none, none] [.int 2, .int v5] hp (some (.int res)) hp
  refine Fx.icmp_ge (112) 142 33 (by decide +kernel) (fun b5 => ?_) (fun b5 => ?_)
  · replace hf := ifp b5 hf
    replace hf := mpd hf
    obtain ⟨t, hf, rfl⟩ := hf
    refine Fx.run [(.iload_n 2, 1, 2, 0, .null)] 143 (by decide +kernel) ?_
    show Fx q_Mo_crowd 6 sh 143 [some (.ref c), some (.int v1), some (.int v2), some (.int v3), some (.int v4), some (.int v5), none, none, none] [.int v2] hp (some (.int res)) hp
    refine Fx.if_ne (7) 150 146 (by decide +kernel) (fun b6 => ?_) (fun b6 => ?_)
    · replace hf := ifn b6 hf
      refine Fx.run [(.iload 4, 2, 4, 0, .null)] 152 (by decide +kernel) ?_
      show Fx q_Mo_crowd 6 sh 152 [some (.ref c), some (.int v1), some (.int v2), some (.int v3), some (.int v4), some (.int v5), none, none, none] [.int v4] hp (some (.int res)) hp
      obtain rfl := Option.some.inj hf
      have hk : v4 = res := hk
      subst hk
      exact Fx.iret (by decide +kernel) rfl
    · replace hf := ifp b6 hf
      refine Fx.run [(.iload_n 3, 1, 3, 0, .null)] 147 (by decide +kernel) ?_
      show Fx q_Mo_crowd 6 sh 147 [some (.ref c), some (.int v1), some (.int v2), some (.int v3), some (.int v4), some (.int v5), none, none, none] [.int v3] hp (some (.int res)) hp
      refine Fx.goto (5) 152 (by decide +kernel) ?_
      obtain rfl := Option.some.inj hf
      have hk : v3 = res := hk
      subst hk
      exact Fx.iret (by decide +kernel) rfl
  · replace hf := ifn b5 hf
    refine Fx.run [(.iconst 0, 1, 0, 0, .int 0), (.istore 6, 2, 6, 0, .null)] 36 (by decide +kernel) ?_
    show Fx q_Mo_crowd 6 sh 36 [some (.ref c), some (.int v1), some (.int v2), some (.int v3), some (.int v4), some (.int v5), some (.int 0), none, none] [] hp (some (.int res)) hp
    have hl := t_Mo_crowd_l36 sh c hS hp v1 v2 v5 res (v3, v4, 0) _ hf hk
    have hl : Fx q_Mo_crowd 6 sh 36 [some (.ref c), some (.int v1), some (.int v2), some (.int v3), some (.int v4), some (.int v5), some (.int 0), none, none] [] hp (some (.int res)) hp := hl
    exact Fx.le hl (And.intro rfl (And.intro rfl (And.intro rfl (And.intro rfl (And.intro rfl (And.intro rfl (And.intro rfl trivial)))))))
set_option maxHeartbeats 4000000 in
set_option maxRecDepth 20000 in
theorem t_Mo_crowd (sh : Shp) (c : Nat) (hS : S_Mo sh c) (hp : HP) (v1 : Int32) (v2 : Int32) (res : Int32) (hf : f_Mo_crowd c hp v1 v2 = some res) : Ex 6 q_Mo_crowd sh [.ref c, .int v1, .int v2] hp (some (.int res)) hp := by
  refine Ex.of [some (.ref c), some (.int v1), some (.int v2), none, none, none, none, none, none] rfl (Nat.le_of_ble_eq_true rfl) (by decide +kernel) rfl ?_
  obtain ⟨t, hk⟩ : ∃ t, t = res := ⟨res, rfl⟩
  rw [← hk] at hf
  unfold f_Mo_crowd at hf
  refine Fx.run [(.iload_n 1, 1, 1, 0, .null)] 1 (by decide +kernel) ?_
  show Fx q_Mo_crowd 6 sh 1 [some (.ref c), some (.int v1), some (.int v2), none, none, none, none, none, none] [.int v1] hp (some (.int res)) hp
  replace hf := bnd hf
  obtain ⟨r1, hr1, hf⟩ := hf
  refine Fx.callS (rr := (some (.int r1))) (hp1 := hp) [.int v1] [] lk_9_94 (by decide +kernel) (t_Mo_isKey sh hp v1 r1 hr1) ⟨Nat.le_of_ble_eq_true rfl, Nat.le_of_ble_eq_true rfl⟩ rfl (Nat.le_of_ble_eq_true rfl) ?_
  show Fx q_Mo_crowd 6 sh 4 [some (.ref c), some (.int v1), some (.int v2), none, none, none, none, none, none] [.int r1] hp (some (.int res)) hp
  refine Fx.if_eq (12) 16 7 (by decide +kernel) (fun b2 => ?_) (fun b2 => ?_)
  · replace hf := ifp b2 hf
    refine Fx.run [(.ldc 79, 2, 0, 0, .int (-10000000))] 18 (by decide +kernel) ?_
    show Fx q_Mo_crowd 6 sh 18 [some (.ref c), some (.int v1), some (.int v2), none, none, none, none, none, none] [.int (-10000000)] hp (some (.int res)) hp
    obtain rfl := Option.some.inj hf
    have hk : (-10000000) = res := hk
    subst hk
    exact Fx.iret (by decide +kernel) rfl
  · replace hf := ifn b2 hf
    refine Fx.run [(.iload_n 2, 1, 2, 0, .null), (.iconst 0, 1, 0, 0, .int 0), (.iconst 1, 1, 0, 0, .int 1)] 10 (by decide +kernel) ?_
    show Fx q_Mo_crowd 6 sh 10 [some (.ref c), some (.int v1), some (.int v2), none, none, none, none, none, none] [.int 1, .int 0, .int v2] hp (some (.int res)) hp
    replace hf := bnd hf
    obtain ⟨r3, hr3, hf⟩ := hf
    refine Fx.callS (rr := (some (.int r3))) (hp1 := hp) [.int v2, .int 0, .int 1] [] lk_9_48 (by decide +kernel) (t_Mo_isIn sh hp v2 0 1 r3 hr3) ⟨Nat.le_of_ble_eq_true rfl, Nat.le_of_ble_eq_true rfl⟩ rfl (Nat.le_of_ble_eq_true rfl) ?_
    show Fx q_Mo_crowd 6 sh 13 [some (.ref c), some (.int v1), some (.int v2), none, none, none, none, none, none] [.int r3] hp (some (.int res)) hp
    refine Fx.if_ne (6) 19 16 (by decide +kernel) (fun b4 => ?_) (fun b4 => ?_)
    · replace hf := ifn b4 hf
      refine Fx.run [(.iconst 0, 1, 0, 0, .int 0), (.istore_n 3, 1, 3, 0, .null), (.iconst 0, 1, 0, 0, .int 0), (.istore 4, 2, 4, 0, .null), (.iconst 0, 1, 0, 0, .int 0), (.istore 5, 2, 5, 0, .null)] 27 (by decide +kernel) ?_
      show Fx q_Mo_crowd 6 sh 27 [some (.ref c), some (.int v1), some (.int v2), some (.int 0), some (.int 0), some (.int 0), none, none, none] [] hp (some (.int res)) hp
      have hl := t_Mo_crowd_l27 sh c hS hp v1 v2 res (0, 0, 0) _ hf hk
      have hl : Fx q_Mo_crowd 6 sh 27 [some (.ref c), some (.int v1), some (.int v2), some (.int 0), some (.int 0), some (.int 0), none, none, none] [] hp (some (.int res)) hp := hl
      exact Fx.le hl (And.intro rfl (And.intro rfl (And.intro rfl (And.intro rfl (And.intro rfl (And.intro rfl trivial))))))
    · replace hf := ifp b4 hf
      refine Fx.run [(.ldc 79, 2, 0, 0, .int (-10000000))] 18 (by decide +kernel) ?_
      show Fx q_Mo_crowd 6 sh 18 [some (.ref c), some (.int v1), some (.int v2), none, none, none, none, none, none] [.int (-10000000)] hp (some (.int res)) hp
      obtain rfl := Option.some.inj hf
      have hk : (-10000000) = res := hk
      subst hk
      exact Fx.iret (by decide +kernel) rfl
set_option maxHeartbeats 4000000 in
set_option maxRecDepth 20000 in
theorem t_Mo_isOne (sh : Shp) (c : Nat) (hS : S_Mo sh c) (hp : HP) (v1 : Int32) (v2 : Int32) (v3 : Int32) (res : Int32) (hf : f_Mo_isOne c hp v1 v2 v3 = some res) : Ex 5 q_Mo_isOne sh [.ref c, .int v1, .int v2, .int v3] hp (some (.int res)) hp := by
  refine Ex.of [some (.ref c), some (.int v1), some (.int v2), some (.int v3)] rfl (Nat.le_of_ble_eq_true rfl) (by decide +kernel) rfl ?_
  obtain ⟨t, hk⟩ : ∃ t, t = res := ⟨res, rfl⟩
  rw [← hk] at hf
  unfold f_Mo_isOne at hf
  refine Fx.run [(.aload_n 0, 1, 0, 0, .null), (.iload_n 1, 1, 1, 0, .null), (.iload_n 2, 1, 2, 0, .null), (.iconst 1, 1, 0, 0, .int 1)] 4 (by decide +kernel) ?_
  show Fx q_Mo_isOne 5 sh 4 [some (.ref c), some (.int v1), some (.int v2), some (.int v3)] [.int 1, .int v2, .int v1, .ref c] hp (some (.int res)) hp
  replace hf := bnd hf
  obtain ⟨r1, hr1, hf⟩ := hf
  refine Fx.callV (rr := (some (.int r1))) (hp1 := hp) [.int v1, .int v2, .int 1] [] lk_9_44 (by decide +kernel) (t_Mo_of sh c (hS) hp v1 v2 1 r1 hr1) ⟨Nat.le_of_ble_eq_true rfl, Nat.le_of_ble_eq_true rfl⟩ (hS).1 (by decide) rfl (Nat.le_of_ble_eq_true rfl) ?_
  show Fx q_Mo_isOne 5 sh 7 [some (.ref c), some (.int v1), some (.int v2), some (.int v3)] [.int r1] hp (some (.int res)) hp
  refine Fx.run [(.aload_n 0, 1, 0, 0, .null), (.iload_n 1, 1, 1, 0, .null), (.iload_n 3, 1, 3, 0, .null), (.iconst 1, 1, 0, 0, .int 1)] 11 (by decide +kernel) ?_
  show Fx q_Mo_isOne 5 sh 11 [some (.ref c), some (.int v1), some (.int v2), some (.int v3)] [.int 1, .int v3, .int v1, .ref c, .int r1] hp (some (.int res)) hp
  replace hf := bnd hf
  obtain ⟨r2, hr2, hf⟩ := hf
  refine Fx.callV (rr := (some (.int r2))) (hp1 := hp) [.int v1, .int v3, .int 1] [.int r1] lk_9_44 (by decide +kernel) (t_Mo_of sh c (hS) hp v1 v3 1 r2 hr2) ⟨Nat.le_of_ble_eq_true rfl, Nat.le_of_ble_eq_true rfl⟩ (hS).1 (by decide) rfl (Nat.le_of_ble_eq_true rfl) ?_
  show Fx q_Mo_isOne 5 sh 14 [some (.ref c), some (.int v1), some (.int v2), some (.int v3)] [.int r2, .int r1] hp (some (.int res)) hp
  refine Fx.icmp_ne (41) 55 17 (by decide +kernel) (fun b3 => ?_) (fun b3 => ?_)
  · replace hf := ifn b3 hf
    refine Fx.run [(.iconst 0, 1, 0, 0, .int 0)] 56 (by decide +kernel) ?_
    show Fx q_Mo_isOne 5 sh 56 [some (.ref c), some (.int v1), some (.int v2), some (.int v3)] [.int 0] hp (some (.int res)) hp
    obtain rfl := Option.some.inj hf
    have hk : 0 = res := hk
    subst hk
    exact Fx.zret (by decide +kernel) rfl (Or.inl rfl)
  · replace hf := ifp b3 hf
    refine Fx.run [(.aload_n 0, 1, 0, 0, .null), (.iload_n 1, 1, 1, 0, .null), (.iload_n 2, 1, 2, 0, .null), (.iconst 4, 1, 0, 0, .int 4)] 21 (by decide +kernel) ?_
    show Fx q_Mo_isOne 5 sh 21 [some (.ref c), some (.int v1), some (.int v2), some (.int v3)] [.int 4, .int v2, .int v1, .ref c] hp (some (.int res)) hp
    replace hf := bnd hf
    obtain ⟨r4, hr4, hf⟩ := hf
    refine Fx.callV (rr := (some (.int r4))) (hp1 := hp) [.int v1, .int v2, .int 4] [] lk_9_44 (by decide +kernel) (t_Mo_of sh c (hS) hp v1 v2 4 r4 hr4) ⟨Nat.le_of_ble_eq_true rfl, Nat.le_of_ble_eq_true rfl⟩ (hS).1 (by decide) rfl (Nat.le_of_ble_eq_true rfl) ?_
    show Fx q_Mo_isOne 5 sh 24 [some (.ref c), some (.int v1), some (.int v2), some (.int v3)] [.int r4] hp (some (.int res)) hp
    refine Fx.run [(.aload_n 0, 1, 0, 0, .null), (.iload_n 1, 1, 1, 0, .null), (.iload_n 3, 1, 3, 0, .null), (.iconst 4, 1, 0, 0, .int 4)] 28 (by decide +kernel) ?_
    show Fx q_Mo_isOne 5 sh 28 [some (.ref c), some (.int v1), some (.int v2), some (.int v3)] [.int 4, .int v3, .int v1, .ref c, .int r4] hp (some (.int res)) hp
    replace hf := bnd hf
    obtain ⟨r5, hr5, hf⟩ := hf
    refine Fx.callV (rr := (some (.int r5))) (hp1 := hp) [.int v1, .int v3, .int 4] [.int r4] lk_9_44 (by decide +kernel) (t_Mo_of sh c (hS) hp v1 v3 4 r5 hr5) ⟨Nat.le_of_ble_eq_true rfl, Nat.le_of_ble_eq_true rfl⟩ (hS).1 (by decide) rfl (Nat.le_of_ble_eq_true rfl) ?_
    show Fx q_Mo_isOne 5 sh 31 [some (.ref c), some (.int v1), some (.int v2), some (.int v3)] [.int r5, .int r4] hp (some (.int res)) hp
    refine Fx.icmp_ne (24) 55 34 (by decide +kernel) (fun b6 => ?_) (fun b6 => ?_)
    · replace hf := ifn b6 hf
      refine Fx.run [(.iconst 0, 1, 0, 0, .int 0)] 56 (by decide +kernel) ?_
      show Fx q_Mo_isOne 5 sh 56 [some (.ref c), some (.int v1), some (.int v2), some (.int v3)] [.int 0] hp (some (.int res)) hp
      obtain rfl := Option.some.inj hf
      have hk : 0 = res := hk
      subst hk
      exact Fx.zret (by decide +kernel) rfl (Or.inl rfl)
    · replace hf := ifp b6 hf
      refine Fx.run [(.aload_n 0, 1, 0, 0, .null), (.iload_n 1, 1, 1, 0, .null), (.iload_n 2, 1, 2, 0, .null), (.iload_n 1, 1, 1, 0, .null), (.iload_n 3, 1, 3, 0, .null)] 39 (by decide +kernel) ?_
      show Fx q_Mo_isOne 5 sh 39 [some (.ref c), some (.int v1), some (.int v2), some (.int v3)] [.int v3, .int v1, .int v2, .int v1, .ref c] hp (some (.int res)) hp
      replace hf := bnd hf
      obtain ⟨r7, hr7, hf⟩ := hf
      refine Fx.callV (rr := (some (.int r7))) (hp1 := hp) [.int v1, .int v2, .int v1, .int v3] [] lk_9_66 (by decide +kernel) (t_Mo_kindBetween sh c (hS) hp v1 v2 v1 v3 r7 hr7) ⟨Nat.le_of_ble_eq_true rfl, Nat.le_of_ble_eq_true rfl⟩ (hS).1 (by decide) rfl (Nat.le_of_ble_eq_true rfl) ?_
      show Fx q_Mo_isOne 5 sh 42 [some (.ref c), some (.int v1), some (.int v2), some (.int v3)] [.int r7] hp (some (.int res)) hp
      refine Fx.run [(.iconst 1, 1, 0, 0, .int 1), (.bipush 11, 2, 0, 0, .int 11)] 45 (by decide +kernel) ?_
      show Fx q_Mo_isOne 5 sh 45 [some (.ref c), some (.int v1), some (.int v2), some (.int v3)] [.int 11, .int 1, .int r7] hp (some (.int res)) hp
      replace hf := bnd hf
      obtain ⟨r8, hr8, hf⟩ := hf
      refine Fx.callS (rr := (some (.int r8))) (hp1 := hp) [.int r7, .int 1, .int 11] [] lk_9_48 (by decide +kernel) (t_Mo_isIn sh hp r7 1 11 r8 hr8) ⟨Nat.le_of_ble_eq_true rfl, Nat.le_of_ble_eq_true rfl⟩ rfl (Nat.le_of_ble_eq_true rfl) ?_
      show Fx q_Mo_isOne 5 sh 48 [some (.ref c), some (.int v1), some (.int v2), some (.int v3)] [.int r8] hp (some (.int res)) hp
      refine Fx.if_eq (7) 55 51 (by decide +kernel) (fun b9 => ?_) (fun b9 => ?_)
      · replace hf := ifp b9 hf
        refine Fx.run [(.iconst 0, 1, 0, 0, .int 0)] 56 (by decide +kernel) ?_
        show Fx q_Mo_isOne 5 sh 56 [some (.ref c), some (.int v1), some (.int v2), some (.int v3)] [.int 0] hp (some (.int res)) hp
        obtain rfl := Option.some.inj hf
        have hk : 0 = res := hk
        subst hk
        exact Fx.zret (by decide +kernel) rfl (Or.inl rfl)
      · replace hf := ifn b9 hf
        refine Fx.run [(.iconst 1, 1, 0, 0, .int 1)] 52 (by decide +kernel) ?_
        show Fx q_Mo_isOne 5 sh 52 [some (.ref c), some (.int v1), some (.int v2), some (.int v3)] [.int 1] hp (some (.int res)) hp
        refine Fx.goto (4) 56 (by decide +kernel) ?_
        obtain rfl := Option.some.inj hf
        have hk : 1 = res := hk
        subst hk
        exact Fx.zret (by decide +kernel) rfl (Or.inr rfl)
abbrev P_Mo_makesOne_11 (sh : Shp) (c : Nat) (v1 : Int32) (v2 : Int32) (res : HP) : (HP × Int32) → Prop := fun s => Fx q_Mo_makesOne 6 sh 11 [some (.ref c), some (.int v1), some (.int v2), some (.int s.2), none, none] [] s.1 none res
abbrev P_Mo_makesOne_31 (sh : Shp) (c : Nat) (v1 : Int32) (v2 : Int32) (res : HP) : (HP × Int32) → Prop := fun s => Fx q_Mo_makesOne 6 sh 31 [some (.ref c), some (.int v1), some (.int v2), some (.int s.2), none, none] [] s.1 none res
abbrev P_Mo_makesOne_40 (sh : Shp) (c : Nat) (v1 : Int32) (v2 : Int32) (res : HP) : (HP × Int32 × Int32) → Prop := fun s => Fx q_Mo_makesOne 6 sh 40 [some (.ref c), some (.int v1), some (.int v2), some (.int s.2.1), some (.int s.2.2), none] [] s.1 none res
abbrev P_Mo_makesOne_49 (sh : Shp) (c : Nat) (v1 : Int32) (v2 : Int32) (v4 : Int32) (res : HP) : (HP × Int32 × Int32) → Prop := fun s => Fx q_Mo_makesOne 6 sh 49 [some (.ref c), some (.int v1), some (.int v2), some (.int s.2.1), some (.int v4), some (.int s.2.2)] [] s.1 none res
set_option maxHeartbeats 4000000 in
set_option maxRecDepth 20000 in
theorem t_Mo_makesOne_l49 (sh : Shp) (c : Nat) (hS : S_Mo sh c) (hp : HP) (v1 : Int32) (v2 : Int32) (v4 : Int32) (res : HP) : ∀ (s : (HP × Int32 × Int32)) (t : ((HP × Int32 × Int32) ⊕ ((HP × Int32) ⊕ HP))), f_Mo_makesOne_l49 c hp v1 v2 v4 s = some t → (Kel (P_Mo_makesOne_40 sh c v1 v2 res) (Kel (P_Mo_makesOne_31 sh c v1 v2 res) (fun v => v = res))) t → P_Mo_makesOne_49 sh c v1 v2 v4 res s := by
  refine loop_ind (P_Mo_makesOne_49 sh c v1 v2 v4 res) (Kel (P_Mo_makesOne_40 sh c v1 v2 res) (Kel (P_Mo_makesOne_31 sh c v1 v2 res) (fun v => v = res))) ?_
  intro s t hf hk
  obtain ⟨hp, v3, v5⟩ := s
  replace hf : f_Mo_makesOne_b49 c hp v1 v2 v4 v3 v5 = some t := hf
  show Fx q_Mo_makesOne 6 sh 49 [some (.ref c), some (.int v1), some (.int v2), some (.int v3), some (.int v4), some (.int v5)] [] hp none res
  unfold f_Mo_makesOne_b49 at hf
  refine Fx.run [(.iload 5, 2, 5, 0, .null), (.iload_n 2, 1, 2, 0, .null)] 52 (by decide +kernel) ?_
  show Fx q_Mo_makesOne 6 sh 52 [some (.ref c), some (.int v1), some (.int v2), some (.int v3), some (.int v4), some (.int v5)] [.int v2, .int v5] hp none res
  refine Fx.icmp_ge (57) 109 55 (by decide +kernel) (fun b5 => ?_) (fun b5 => ?_)
  · replace hf := ifp b5 hf
    replace hf := mpd hf
    obtain ⟨t, hf, rfl⟩ := hf
    refine Fx.run [(.iinc 4 1, 3, 4, 0, .int 1)] 112 (by decide +kernel) ?_
    show Fx q_Mo_makesOne 6 sh 112 [some (.ref c), some (.int v1), some (.int v2), some (.int v3), some (.int (v4 + 1)), some (.int v5)] [] hp none res
    refine Fx.goto (-72) 40 (by decide +kernel) ?_
    obtain rfl := Option.some.inj hf
    have hk : Fx q_Mo_makesOne 6 sh 40 [some (.ref c), some (.int v1), some (.int v2), some (.int v3), some (.int (v4 + 1)), none] [] hp none res := hk
    exact Fx.le hk (And.intro rfl (And.intro rfl (And.intro rfl (And.intro rfl (And.intro rfl trivial)))))
  · replace hf := ifn b5 hf
    replace hf := gd hf
    obtain ⟨g6, hf⟩ := hf
    replace hf := gd hf
    obtain ⟨g7, hf⟩ := hf
    refine Fx.run [(.aload_n 0, 1, 0, 0, .null), (.getfield 25, 3, 9, 7, .ref 6), (.iload 4, 2, 4, 0, .null), (.iaload, 1, 40, 0, .null), (.aload_n 0, 1, 0, 0, .null), (.getfield 25, 3, 9, 7, .ref 6), (.iload 5, 2, 5, 0, .null), (.iaload, 1, 40, 0, .null)] 69 (by decide +kernel) ?_
    show isK sh c 9 ∧ (isA sh (c + 6) 10 40 ∧ inb v4 40) ∧ isK sh c 9 ∧ (isA sh (c + 6) 10 40 ∧ inb v5 40) ∧ Fx q_Mo_makesOne 6 sh 69 [some (.ref c), some (.int v1), some (.int v2), some (.int v3), some (.int v4), some (.int v5)] [.int (hp.1 (c + 6) (ix v5)), .int (hp.1 (c + 6) (ix v4))] hp none res
    refine ⟨hS.1, ⟨hS.2.2.2.2.2.2.1, g6⟩, hS.1, ⟨hS.2.2.2.2.2.2.1, g7⟩, ?_⟩
    refine Fx.icmp_le (34) 103 72 (by decide +kernel) (fun b8 => ?_) (fun b8 => ?_)
    · replace hf := ifp b8 hf
      refine Fx.run [(.iinc 5 1, 3, 5, 0, .int 1)] 106 (by decide +kernel) ?_
      show Fx q_Mo_makesOne 6 sh 106 [some (.ref c), some (.int v1), some (.int v2), some (.int v3), some (.int v4), some (.int (v5 + 1))] [] hp none res
      refine Fx.goto (-57) 49 (by decide +kernel) ?_
      obtain rfl := Option.some.inj hf
      have hk : Fx q_Mo_makesOne 6 sh 49 [some (.ref c), some (.int v1), some (.int v2), some (.int v3), some (.int v4), some (.int (v5 + 1))] [] hp none res := hk
      exact Fx.le hk (And.intro rfl (And.intro rfl (And.intro rfl (And.intro rfl (And.intro rfl (And.intro rfl trivial))))))
    · replace hf := ifn b8 hf
      refine Fx.run [(.aload_n 0, 1, 0, 0, .null), (.iload_n 1, 1, 1, 0, .null), (.iload 4, 2, 4, 0, .null), (.iload 5, 2, 5, 0, .null)] 78 (by decide +kernel) ?_
      show Fx q_Mo_makesOne 6 sh 78 [some (.ref c), some (.int v1), some (.int v2), some (.int v3), some (.int v4), some (.int v5)] [.int v5, .int v4, .int v1, .ref c] hp none res
      replace hf := bnd hf
      obtain ⟨r9, hr9, hf⟩ := hf
      refine Fx.callV (rr := (some (.int r9))) (hp1 := hp) [.int v1, .int v4, .int v5] [] lk_9_222 (by decide +kernel) (t_Mo_isOne sh c (hS) hp v1 v4 v5 r9 hr9) ⟨Nat.le_of_ble_eq_true rfl, Nat.le_of_ble_eq_true rfl⟩ (hS).1 (by decide) rfl (Nat.le_of_ble_eq_true rfl) ?_
      show Fx q_Mo_makesOne 6 sh 81 [some (.ref c), some (.int v1), some (.int v2), some (.int v3), some (.int v4), some (.int v5)] [.int r9] hp none res
      refine Fx.if_ne (6) 87 84 (by decide +kernel) (fun b10 => ?_) (fun b10 => ?_)
      · replace hf := ifn b10 hf
        replace hf := gd hf
        obtain ⟨g11, hf⟩ := hf
        replace hf := gd hf
        obtain ⟨g12, hf⟩ := hf
        refine Fx.run [(.aload_n 0, 1, 0, 0, .null), (.getfield 25, 3, 9, 7, .ref 6), (.iload 4, 2, 4, 0, .null), (.aload_n 0, 1, 0, 0, .null), (.getfield 25, 3, 9, 7, .ref 6), (.iload 5, 2, 5, 0, .null), (.iaload, 1, 40, 0, .null), (.iastore, 1, 40, 0, .null), (.iconst 1, 1, 0, 0, .int 1), (.istore_n 3, 1, 3, 0, .null), (.iinc 5 1, 3, 5, 0, .int 1)] 106 (by decide +kernel) ?_
        show isK sh c 9 ∧ isK sh c 9 ∧ (isA sh (c + 6) 10 40 ∧ inb v5 40) ∧ (isA sh (c + 6) 10 40 ∧ inb v4 40) ∧ Fx q_Mo_makesOne 6 sh 106 [some (.ref c), some (.int v1), some (.int v2), some (.int 1), some (.int v4), some (.int (v5 + 1))] [] (upI hp (c + 6) (ix v4) (hp.1 (c + 6) (ix v5))) none res
        refine ⟨hS.1, hS.1, ⟨hS.2.2.2.2.2.2.1, g11⟩, ⟨hS.2.2.2.2.2.2.1, g12⟩, ?_⟩
        refine Fx.goto (-57) 49 (by decide +kernel) ?_
        obtain rfl := Option.some.inj hf
        have hk : Fx q_Mo_makesOne 6 sh 49 [some (.ref c), some (.int v1), some (.int v2), some (.int 1), some (.int v4), some (.int (v5 + 1))] [] (upI hp (c + 6) (ix v4) (hp.1 (c + 6) (ix v5))) none res := hk
        exact Fx.le hk (And.intro rfl (And.intro rfl (And.intro rfl (And.intro rfl (And.intro rfl (And.intro rfl trivial))))))
      · replace hf := ifp b10 hf
        refine Fx.goto (19) 103 (by decide +kernel) ?_
        refine Fx.run [(.iinc 5 1, 3, 5, 0, .int 1)] 106 (by decide +kernel) ?_
        show Fx q_Mo_makesOne 6 sh 106 [some (.ref c), some (.int v1), some (.int v2), some (.int v3), some (.int v4), some (.int (v5 + 1))] [] hp none res
        refine Fx.goto (-57) 49 (by decide +kernel) ?_
        obtain rfl := Option.some.inj hf
        have hk : Fx q_Mo_makesOne 6 sh 49 [some (.ref c), some (.int v1), some (.int v2), some (.int v3), some (.int v4), some (.int (v5 + 1))] [] hp none res := hk
        exact Fx.le hk (And.intro rfl (And.intro rfl (And.intro rfl (And.intro rfl (And.intro rfl (And.intro rfl trivial))))))
set_option maxHeartbeats 4000000 in
set_option maxRecDepth 20000 in
theorem t_Mo_makesOne_l40 (sh : Shp) (c : Nat) (hS : S_Mo sh c) (hp : HP) (v1 : Int32) (v2 : Int32) (res : HP) : ∀ (s : (HP × Int32 × Int32)) (t : ((HP × Int32) ⊕ HP)), f_Mo_makesOne_l40 c hp v1 v2 s = some t → (Kel (P_Mo_makesOne_31 sh c v1 v2 res) (fun v => v = res)) t → P_Mo_makesOne_40 sh c v1 v2 res s := by
  refine loop_ind (P_Mo_makesOne_40 sh c v1 v2 res) (Kel (P_Mo_makesOne_31 sh c v1 v2 res) (fun v => v = res)) ?_
  intro s t hf hk
  obtain ⟨hp, v3, v4⟩ := s
  replace hf : f_Mo_makesOne_b40 c hp v1 v2 v3 v4 = some t := hf
  show Fx q_Mo_makesOne 6 sh 40 [some (.ref c), some (.int v1), some (.int v2), some (.int v3), some (.int v4), none] [] hp none res
  unfold f_Mo_makesOne_b40 at hf
  refine Fx.run [(.iload 4, 2, 4, 0, .null), (.iload_n 2, 1, 2, 0, .null)] 43 (by decide +kernel) ?_
  show Fx q_Mo_makesOne 6 sh 43 [some (.ref c), some (.int v1), some (.int v2), some (.int v3), some (.int v4), none] [.int v2, .int v4] hp none res
  refine Fx.icmp_ge (72) 115 46 (by decide +kernel) (fun b4 => ?_) (fun b4 => ?_)
  · replace hf := ifp b4 hf
    replace hf := mpd hf
    obtain ⟨t, hf, rfl⟩ := hf
    refine Fx.goto (-84) 31 (by decide +kernel) ?_
    obtain rfl := Option.some.inj hf
    have hk : Fx q_Mo_makesOne 6 sh 31 [some (.ref c), some (.int v1), some (.int v2), some (.int v3), none, none] [] hp none res := hk
    exact Fx.le hk (And.intro rfl (And.intro rfl (And.intro rfl (And.intro rfl trivial))))
  · replace hf := ifn b4 hf
    refine Fx.run [(.iconst 0, 1, 0, 0, .int 0), (.istore 5, 2, 5, 0, .null)] 49 (by decide +kernel) ?_
    show Fx q_Mo_makesOne 6 sh 49 [some (.ref c), some (.int v1), some (.int v2), some (.int v3), some (.int v4), some (.int 0)] [] hp none res
    have hl := t_Mo_makesOne_l49 sh c hS hp v1 v2 v4 res (hp, v3, 0) _ hf hk
    have hl : Fx q_Mo_makesOne 6 sh 49 [some (.ref c), some (.int v1), some (.int v2), some (.int v3), some (.int v4), some (.int 0)] [] hp none res := hl
    exact Fx.le hl (And.intro rfl (And.intro rfl (And.intro rfl (And.intro rfl (And.intro rfl (And.intro rfl trivial))))))
set_option maxHeartbeats 4000000 in
set_option maxRecDepth 20000 in
theorem t_Mo_makesOne_l31 (sh : Shp) (c : Nat) (hS : S_Mo sh c) (hp : HP) (v1 : Int32) (v2 : Int32) (res : HP) : ∀ (s : (HP × Int32)) (t : HP), f_Mo_makesOne_l31 c hp v1 v2 s = some t → (fun v => v = res) t → P_Mo_makesOne_31 sh c v1 v2 res s := by
  refine loop_ind (P_Mo_makesOne_31 sh c v1 v2 res) (fun v => v = res) ?_
  intro s t hf hk
  obtain ⟨hp, v3⟩ := s
  replace hf : f_Mo_makesOne_b31 c hp v1 v2 v3 = some t := hf
  show Fx q_Mo_makesOne 6 sh 31 [some (.ref c), some (.int v1), some (.int v2), some (.int v3), none, none] [] hp none res
  unfold f_Mo_makesOne_b31 at hf
  refine Fx.run [(.iload_n 3, 1, 3, 0, .null)] 32 (by decide +kernel) ?_
  show Fx q_Mo_makesOne 6 sh 32 [some (.ref c), some (.int v1), some (.int v2), some (.int v3), none, none] [.int v3] hp none res
  refine Fx.if_eq (86) 118 35 (by decide +kernel) (fun b3 => ?_) (fun b3 => ?_)
  · replace hf := ifp b3 hf
    replace hf := mpd hf
    obtain ⟨t, hf, rfl⟩ := hf
    obtain rfl := Option.some.inj hf
    have hk : hp = res := hk
    subst hk
    exact Fx.vret (by decide +kernel) rfl
  · replace hf := ifn b3 hf
    refine Fx.run [(.iconst 0, 1, 0, 0, .int 0), (.istore_n 3, 1, 3, 0, .null), (.iconst 0, 1, 0, 0, .int 0), (.istore 4, 2, 4, 0, .null)] 40 (by decide +kernel) ?_
    show Fx q_Mo_makesOne 6 sh 40 [some (.ref c), some (.int v1), some (.int v2), some (.int 0), some (.int 0), none] [] hp none res
    have hl := t_Mo_makesOne_l40 sh c hS hp v1 v2 res (hp, 0, 0) _ hf hk
    have hl : Fx q_Mo_makesOne 6 sh 40 [some (.ref c), some (.int v1), some (.int v2), some (.int 0), some (.int 0), none] [] hp none res := hl
    exact Fx.le hl (And.intro rfl (And.intro rfl (And.intro rfl (And.intro rfl (And.intro rfl trivial)))))
set_option maxHeartbeats 4000000 in
set_option maxRecDepth 20000 in
theorem t_Mo_makesOne_l11 (sh : Shp) (c : Nat) (hS : S_Mo sh c) (hp : HP) (v1 : Int32) (v2 : Int32) (res : HP) : ∀ (s : (HP × Int32)) (t : HP), f_Mo_makesOne_l11 c hp v1 v2 s = some t → (fun v => v = res) t → P_Mo_makesOne_11 sh c v1 v2 res s := by
  refine loop_ind (P_Mo_makesOne_11 sh c v1 v2 res) (fun v => v = res) ?_
  intro s t hf hk
  obtain ⟨hp, v3⟩ := s
  replace hf : f_Mo_makesOne_b11 c hp v1 v2 v3 = some t := hf
  show Fx q_Mo_makesOne 6 sh 11 [some (.ref c), some (.int v1), some (.int v2), some (.int v3), none, none] [] hp none res
  unfold f_Mo_makesOne_b11 at hf
  refine Fx.run [(.iload_n 3, 1, 3, 0, .null), (.iload_n 2, 1, 2, 0, .null)] 13 (by decide +kernel) ?_
  show Fx q_Mo_makesOne 6 sh 13 [some (.ref c), some (.int v1), some (.int v2), some (.int v3), none, none] [.int v2, .int v3] hp none res
  refine Fx.icmp_ge (16) 29 16 (by decide +kernel) (fun b2 => ?_) (fun b2 => ?_)
  · replace hf := ifp b2 hf
    replace hf := mpd hf
    obtain ⟨t, hf, rfl⟩ := hf
    refine Fx.run [(.iconst 1, 1, 0, 0, .int 1), (.istore_n 3, 1, 3, 0, .null)] 31 (by decide +kernel) ?_
    show Fx q_Mo_makesOne 6 sh 31 [some (.ref c), some (.int v1), some (.int v2), some (.int 1), none, none] [] hp none res
    have hl := t_Mo_makesOne_l31 sh c hS hp v1 v2 res (hp, 1) _ hf hk
    have hl : Fx q_Mo_makesOne 6 sh 31 [some (.ref c), some (.int v1), some (.int v2), some (.int 1), none, none] [] hp none res := hl
    exact Fx.le hl (And.intro rfl (And.intro rfl (And.intro rfl (And.intro rfl trivial))))
  · replace hf := ifn b2 hf
    replace hf := gd hf
    obtain ⟨g13, hf⟩ := hf
    refine Fx.run [(.aload_n 0, 1, 0, 0, .null), (.getfield 25, 3, 9, 7, .ref 6), (.iload_n 3, 1, 3, 0, .null), (.iload_n 3, 1, 3, 0, .null), (.iastore, 1, 40, 0, .null), (.iinc 3 1, 3, 3, 0, .int 1)] 26 (by decide +kernel) ?_
    show isK sh c 9 ∧ (isA sh (c + 6) 10 40 ∧ inb v3 40) ∧ Fx q_Mo_makesOne 6 sh 26 [some (.ref c), some (.int v1), some (.int v2), some (.int (v3 + 1)), none, none] [] (upI hp (c + 6) (ix v3) v3) none res
    refine ⟨hS.1, ⟨hS.2.2.2.2.2.2.1, g13⟩, ?_⟩
    refine Fx.goto (-15) 11 (by decide +kernel) ?_
    obtain rfl := Option.some.inj hf
    have hk : Fx q_Mo_makesOne 6 sh 11 [some (.ref c), some (.int v1), some (.int v2), some (.int (v3 + 1)), none, none] [] (upI hp (c + 6) (ix v3) v3) none res := hk
    exact Fx.le hk (And.intro rfl (And.intro rfl (And.intro rfl (And.intro rfl trivial))))
set_option maxHeartbeats 4000000 in
set_option maxRecDepth 20000 in
theorem t_Mo_makesOne (sh : Shp) (c : Nat) (hS : S_Mo sh c) (hp : HP) (v1 : Int32) (res : HP) (hf : f_Mo_makesOne c hp v1 = some res) : Ex 6 q_Mo_makesOne sh [.ref c, .int v1] hp none res := by
  refine Ex.of [some (.ref c), some (.int v1), none, none, none, none] rfl (Nat.le_of_ble_eq_true rfl) (by decide +kernel) rfl ?_
  obtain ⟨t, hk⟩ : ∃ t, t = res := ⟨res, rfl⟩
  rw [← hk] at hf
  unfold f_Mo_makesOne at hf
  replace hf := gd hf
  obtain ⟨g1, hf⟩ := hf
  refine Fx.run [(.aload_n 0, 1, 0, 0, .null), (.getfield 9, 3, 9, 0, .ref 1), (.iconst 2, 1, 0, 0, .int 2), (.iload_n 1, 1, 1, 0, .null), (.iadd, 1, 0, 0, .null), (.iaload, 1, 4100, 0, .null), (.istore_n 2, 1, 2, 0, .null), (.iconst 0, 1, 0, 0, .int 0), (.istore_n 3, 1, 3, 0, .null)] 11 (by decide +kernel) ?_
  show isK sh c 9 ∧ (isA sh (c + 1) 10 4100 ∧ inb (2 + v1) 4100) ∧ Fx q_Mo_makesOne 6 sh 11 [some (.ref c), some (.int v1), some (.int (hp.1 (c + 1) (ix (2 + v1)))), some (.int 0), none, none] [] hp none res
  refine ⟨hS.1, ⟨hS.2.1, g1⟩, ?_⟩
  have hl := t_Mo_makesOne_l11 sh c hS hp v1 (hp.1 (c + 1) (ix (2 + v1))) res (hp, 0) _ hf hk
  have hl : Fx q_Mo_makesOne 6 sh 11 [some (.ref c), some (.int v1), some (.int (hp.1 (c + 1) (ix (2 + v1)))), some (.int 0), none, none] [] hp none res := hl
  exact Fx.le hl (And.intro rfl (And.intro rfl (And.intro rfl (And.intro rfl trivial))))
abbrev P_Mo_least_10 (sh : Shp) (c : Nat) (hp : HP) (v1 : Int32) (v2 : Int32) (res : Int32) : (Int32 × Int32) → Prop := fun s => Fx q_Mo_least 4 sh 10 [some (.ref c), some (.int v1), some (.int v2), some (.int s.1), some (.int s.2)] [] hp (some (.int res)) hp
set_option maxHeartbeats 4000000 in
set_option maxRecDepth 20000 in
theorem t_Mo_least_l10 (sh : Shp) (c : Nat) (hS : S_Mo sh c) (hp : HP) (v1 : Int32) (v2 : Int32) (res : Int32) : ∀ (s : (Int32 × Int32)) (t : Int32), f_Mo_least_l10 c hp v1 v2 s = some t → (fun v => v = res) t → P_Mo_least_10 sh c hp v1 v2 res s := by
  refine loop_ind (P_Mo_least_10 sh c hp v1 v2 res) (fun v => v = res) ?_
  intro s t hf hk
  obtain ⟨v3, v4⟩ := s
  replace hf : f_Mo_least_b10 c hp v1 v2 v3 v4 = some t := hf
  show Fx q_Mo_least 4 sh 10 [some (.ref c), some (.int v1), some (.int v2), some (.int v3), some (.int v4)] [] hp (some (.int res)) hp
  unfold f_Mo_least_b10 at hf
  replace hf := gd hf
  obtain ⟨g2, hf⟩ := hf
  refine Fx.run [(.iload 4, 2, 4, 0, .null), (.aload_n 0, 1, 0, 0, .null), (.getfield 9, 3, 9, 0, .ref 1), (.iconst 2, 1, 0, 0, .int 2), (.iload_n 1, 1, 1, 0, .null), (.iadd, 1, 0, 0, .null), (.iaload, 1, 4100, 0, .null)] 20 (by decide +kernel) ?_
  show isK sh c 9 ∧ (isA sh (c + 1) 10 4100 ∧ inb (2 + v1) 4100) ∧ Fx q_Mo_least 4 sh 20 [some (.ref c), some (.int v1), some (.int v2), some (.int v3), some (.int v4)] [.int (hp.1 (c + 1) (ix (2 + v1))), .int v4] hp (some (.int res)) hp
  refine ⟨hS.1, ⟨hS.2.1, g2⟩, ?_⟩
  refine Fx.icmp_ge (32) 52 23 (by decide +kernel) (fun b3 => ?_) (fun b3 => ?_)
  · replace hf := ifp b3 hf
    replace hf := mpd hf
    obtain ⟨t, hf, rfl⟩ := hf
    refine Fx.run [(.iload_n 3, 1, 3, 0, .null)] 53 (by decide +kernel) ?_
    show Fx q_Mo_least 4 sh 53 [some (.ref c), some (.int v1), some (.int v2), some (.int v3), some (.int v4)] [.int v3] hp (some (.int res)) hp
    obtain rfl := Option.some.inj hf
    have hk : v3 = res := hk
    subst hk
    exact Fx.iret (by decide +kernel) rfl
  · replace hf := ifn b3 hf
    replace hf := gd hf
    obtain ⟨g4, hf⟩ := hf
    refine Fx.run [(.aload_n 0, 1, 0, 0, .null), (.getfield 25, 3, 9, 7, .ref 6), (.iload 4, 2, 4, 0, .null), (.iaload, 1, 40, 0, .null), (.iload_n 2, 1, 2, 0, .null)] 31 (by decide +kernel) ?_
    show isK sh c 9 ∧ (isA sh (c + 6) 10 40 ∧ inb v4 40) ∧ Fx q_Mo_least 4 sh 31 [some (.ref c), some (.int v1), some (.int v2), some (.int v3), some (.int v4)] [.int v2, .int (hp.1 (c + 6) (ix v4))] hp (some (.int res)) hp
    refine ⟨hS.1, ⟨hS.2.2.2.2.2.2.1, g4⟩, ?_⟩
    refine Fx.icmp_ne (15) 46 34 (by decide +kernel) (fun b5 => ?_) (fun b5 => ?_)
    · replace hf := ifn b5 hf
      refine Fx.run [(.iinc 4 1, 3, 4, 0, .int 1)] 49 (by decide +kernel) ?_
      show Fx q_Mo_least 4 sh 49 [some (.ref c), some (.int v1), some (.int v2), some (.int v3), some (.int (v4 + 1))] [] hp (some (.int res)) hp
      refine Fx.goto (-39) 10 (by decide +kernel) ?_
      obtain rfl := Option.some.inj hf
      have hk : Fx q_Mo_least 4 sh 10 [some (.ref c), some (.int v1), some (.int v2), some (.int v3), some (.int (v4 + 1))] [] hp (some (.int res)) hp := hk
      exact Fx.le hk (And.intro rfl (And.intro rfl (And.intro rfl (And.intro rfl (And.intro rfl trivial)))))
    · replace hf := ifp b5 hf
      refine Fx.run [(.iload_n 3, 1, 3, 0, .null), (.aload_n 0, 1, 0, 0, .null), (.iload_n 1, 1, 1, 0, .null), (.iload 4, 2, 4, 0, .null)] 39 (by decide +kernel) ?_
      show Fx q_Mo_least 4 sh 39 [some (.ref c), some (.int v1), some (.int v2), some (.int v3), some (.int v4)] [.int v4, .int v1, .ref c, .int v3] hp (some (.int res)) hp
      replace hf := bnd hf
      obtain ⟨r6, hr6, hf⟩ := hf
      refine Fx.callV (rr := (some (.int r6))) (hp1 := hp) [.int v1, .int v4] [.int v3] lk_9_56 (by decide +kernel) (t_Mo_startOf sh c (hS) hp v1 v4 r6 hr6) ⟨Nat.le_of_ble_eq_true rfl, Nat.le_of_ble_eq_true rfl⟩ (hS).1 (by decide) rfl (Nat.le_of_ble_eq_true rfl) ?_
      show Fx q_Mo_least 4 sh 42 [some (.ref c), some (.int v1), some (.int v2), some (.int v3), some (.int v4)] [.int r6, .int v3] hp (some (.int res)) hp
      replace hf := bnd hf
      obtain ⟨r7, hr7, hf⟩ := hf
      refine Fx.callS (rr := (some (.int r7))) (hp1 := hp) [.int v3, .int r6] [] lk_9_173 (by decide +kernel) (t_Mo_less sh hp v3 r6 r7 hr7) ⟨Nat.le_of_ble_eq_true rfl, Nat.le_of_ble_eq_true rfl⟩ rfl (Nat.le_of_ble_eq_true rfl) ?_
      show Fx q_Mo_least 4 sh 45 [some (.ref c), some (.int v1), some (.int v2), some (.int v3), some (.int v4)] [.int r7] hp (some (.int res)) hp
      refine Fx.run [(.istore_n 3, 1, 3, 0, .null), (.iinc 4 1, 3, 4, 0, .int 1)] 49 (by decide +kernel) ?_
      show Fx q_Mo_least 4 sh 49 [some (.ref c), some (.int v1), some (.int v2), some (.int r7), some (.int (v4 + 1))] [] hp (some (.int res)) hp
      refine Fx.goto (-39) 10 (by decide +kernel) ?_
      obtain rfl := Option.some.inj hf
      have hk : Fx q_Mo_least 4 sh 10 [some (.ref c), some (.int v1), some (.int v2), some (.int r7), some (.int (v4 + 1))] [] hp (some (.int res)) hp := hk
      exact Fx.le hk (And.intro rfl (And.intro rfl (And.intro rfl (And.intro rfl (And.intro rfl trivial)))))
set_option maxHeartbeats 4000000 in
set_option maxRecDepth 20000 in
theorem t_Mo_least (sh : Shp) (c : Nat) (hS : S_Mo sh c) (hp : HP) (v1 : Int32) (v2 : Int32) (res : Int32) (hf : f_Mo_least c hp v1 v2 = some res) : Ex 4 q_Mo_least sh [.ref c, .int v1, .int v2] hp (some (.int res)) hp := by
  refine Ex.of [some (.ref c), some (.int v1), some (.int v2), none, none] rfl (Nat.le_of_ble_eq_true rfl) (by decide +kernel) rfl ?_
  obtain ⟨t, hk⟩ : ∃ t, t = res := ⟨res, rfl⟩
  rw [← hk] at hf
  unfold f_Mo_least at hf
  refine Fx.run [(.aload_n 0, 1, 0, 0, .null), (.iload_n 1, 1, 1, 0, .null), (.iload_n 2, 1, 2, 0, .null)] 3 (by decide +kernel) ?_
  show Fx q_Mo_least 4 sh 3 [some (.ref c), some (.int v1), some (.int v2), none, none] [.int v2, .int v1, .ref c] hp (some (.int res)) hp
  replace hf := bnd hf
  obtain ⟨r1, hr1, hf⟩ := hf
  refine Fx.callV (rr := (some (.int r1))) (hp1 := hp) [.int v1, .int v2] [] lk_9_56 (by decide +kernel) (t_Mo_startOf sh c (hS) hp v1 v2 r1 hr1) ⟨Nat.le_of_ble_eq_true rfl, Nat.le_of_ble_eq_true rfl⟩ (hS).1 (by decide) rfl (Nat.le_of_ble_eq_true rfl) ?_
  show Fx q_Mo_least 4 sh 6 [some (.ref c), some (.int v1), some (.int v2), none, none] [.int r1] hp (some (.int res)) hp
  refine Fx.run [(.istore_n 3, 1, 3, 0, .null), (.iconst 0, 1, 0, 0, .int 0), (.istore 4, 2, 4, 0, .null)] 10 (by decide +kernel) ?_
  show Fx q_Mo_least 4 sh 10 [some (.ref c), some (.int v1), some (.int v2), some (.int r1), some (.int 0)] [] hp (some (.int res)) hp
  have hl := t_Mo_least_l10 sh c hS hp v1 v2 res (r1, 0) _ hf hk
  have hl : Fx q_Mo_least 4 sh 10 [some (.ref c), some (.int v1), some (.int v2), some (.int r1), some (.int 0)] [] hp (some (.int res)) hp := hl
  exact Fx.le hl (And.intro rfl (And.intro rfl (And.intro rfl (And.intro rfl (And.intro rfl trivial)))))
abbrev P_Mo_greatest_10 (sh : Shp) (c : Nat) (hp : HP) (v1 : Int32) (v2 : Int32) (res : Int32) : (Int32 × Int32) → Prop := fun s => Fx q_Mo_greatest 4 sh 10 [some (.ref c), some (.int v1), some (.int v2), some (.int s.1), some (.int s.2)] [] hp (some (.int res)) hp
set_option maxHeartbeats 4000000 in
set_option maxRecDepth 20000 in
theorem t_Mo_greatest_l10 (sh : Shp) (c : Nat) (hS : S_Mo sh c) (hp : HP) (v1 : Int32) (v2 : Int32) (res : Int32) : ∀ (s : (Int32 × Int32)) (t : Int32), f_Mo_greatest_l10 c hp v1 v2 s = some t → (fun v => v = res) t → P_Mo_greatest_10 sh c hp v1 v2 res s := by
  refine loop_ind (P_Mo_greatest_10 sh c hp v1 v2 res) (fun v => v = res) ?_
  intro s t hf hk
  obtain ⟨v3, v4⟩ := s
  replace hf : f_Mo_greatest_b10 c hp v1 v2 v3 v4 = some t := hf
  show Fx q_Mo_greatest 4 sh 10 [some (.ref c), some (.int v1), some (.int v2), some (.int v3), some (.int v4)] [] hp (some (.int res)) hp
  unfold f_Mo_greatest_b10 at hf
  replace hf := gd hf
  obtain ⟨g2, hf⟩ := hf
  refine Fx.run [(.iload 4, 2, 4, 0, .null), (.aload_n 0, 1, 0, 0, .null), (.getfield 9, 3, 9, 0, .ref 1), (.iconst 2, 1, 0, 0, .int 2), (.iload_n 1, 1, 1, 0, .null), (.iadd, 1, 0, 0, .null), (.iaload, 1, 4100, 0, .null)] 20 (by decide +kernel) ?_
  show isK sh c 9 ∧ (isA sh (c + 1) 10 4100 ∧ inb (2 + v1) 4100) ∧ Fx q_Mo_greatest 4 sh 20 [some (.ref c), some (.int v1), some (.int v2), some (.int v3), some (.int v4)] [.int (hp.1 (c + 1) (ix (2 + v1))), .int v4] hp (some (.int res)) hp
  refine ⟨hS.1, ⟨hS.2.1, g2⟩, ?_⟩
  refine Fx.icmp_ge (32) 52 23 (by decide +kernel) (fun b3 => ?_) (fun b3 => ?_)
  · replace hf := ifp b3 hf
    replace hf := mpd hf
    obtain ⟨t, hf, rfl⟩ := hf
    refine Fx.run [(.iload_n 3, 1, 3, 0, .null)] 53 (by decide +kernel) ?_
    show Fx q_Mo_greatest 4 sh 53 [some (.ref c), some (.int v1), some (.int v2), some (.int v3), some (.int v4)] [.int v3] hp (some (.int res)) hp
    obtain rfl := Option.some.inj hf
    have hk : v3 = res := hk
    subst hk
    exact Fx.iret (by decide +kernel) rfl
  · replace hf := ifn b3 hf
    replace hf := gd hf
    obtain ⟨g4, hf⟩ := hf
    refine Fx.run [(.aload_n 0, 1, 0, 0, .null), (.getfield 25, 3, 9, 7, .ref 6), (.iload 4, 2, 4, 0, .null), (.iaload, 1, 40, 0, .null), (.iload_n 2, 1, 2, 0, .null)] 31 (by decide +kernel) ?_
    show isK sh c 9 ∧ (isA sh (c + 6) 10 40 ∧ inb v4 40) ∧ Fx q_Mo_greatest 4 sh 31 [some (.ref c), some (.int v1), some (.int v2), some (.int v3), some (.int v4)] [.int v2, .int (hp.1 (c + 6) (ix v4))] hp (some (.int res)) hp
    refine ⟨hS.1, ⟨hS.2.2.2.2.2.2.1, g4⟩, ?_⟩
    refine Fx.icmp_ne (15) 46 34 (by decide +kernel) (fun b5 => ?_) (fun b5 => ?_)
    · replace hf := ifn b5 hf
      refine Fx.run [(.iinc 4 1, 3, 4, 0, .int 1)] 49 (by decide +kernel) ?_
      show Fx q_Mo_greatest 4 sh 49 [some (.ref c), some (.int v1), some (.int v2), some (.int v3), some (.int (v4 + 1))] [] hp (some (.int res)) hp
      refine Fx.goto (-39) 10 (by decide +kernel) ?_
      obtain rfl := Option.some.inj hf
      have hk : Fx q_Mo_greatest 4 sh 10 [some (.ref c), some (.int v1), some (.int v2), some (.int v3), some (.int (v4 + 1))] [] hp (some (.int res)) hp := hk
      exact Fx.le hk (And.intro rfl (And.intro rfl (And.intro rfl (And.intro rfl (And.intro rfl trivial)))))
    · replace hf := ifp b5 hf
      refine Fx.run [(.iload_n 3, 1, 3, 0, .null), (.aload_n 0, 1, 0, 0, .null), (.iload_n 1, 1, 1, 0, .null), (.iload 4, 2, 4, 0, .null)] 39 (by decide +kernel) ?_
      show Fx q_Mo_greatest 4 sh 39 [some (.ref c), some (.int v1), some (.int v2), some (.int v3), some (.int v4)] [.int v4, .int v1, .ref c, .int v3] hp (some (.int res)) hp
      replace hf := bnd hf
      obtain ⟨r6, hr6, hf⟩ := hf
      refine Fx.callV (rr := (some (.int r6))) (hp1 := hp) [.int v1, .int v4] [.int v3] lk_9_59 (by decide +kernel) (t_Mo_endOf sh c (hS) hp v1 v4 r6 hr6) ⟨Nat.le_of_ble_eq_true rfl, Nat.le_of_ble_eq_true rfl⟩ (hS).1 (by decide) rfl (Nat.le_of_ble_eq_true rfl) ?_
      show Fx q_Mo_greatest 4 sh 42 [some (.ref c), some (.int v1), some (.int v2), some (.int v3), some (.int v4)] [.int r6, .int v3] hp (some (.int res)) hp
      replace hf := bnd hf
      obtain ⟨r7, hr7, hf⟩ := hf
      refine Fx.callS (rr := (some (.int r7))) (hp1 := hp) [.int v3, .int r6] [] lk_9_133 (by decide +kernel) (t_Mo_more sh hp v3 r6 r7 hr7) ⟨Nat.le_of_ble_eq_true rfl, Nat.le_of_ble_eq_true rfl⟩ rfl (Nat.le_of_ble_eq_true rfl) ?_
      show Fx q_Mo_greatest 4 sh 45 [some (.ref c), some (.int v1), some (.int v2), some (.int v3), some (.int v4)] [.int r7] hp (some (.int res)) hp
      refine Fx.run [(.istore_n 3, 1, 3, 0, .null), (.iinc 4 1, 3, 4, 0, .int 1)] 49 (by decide +kernel) ?_
      show Fx q_Mo_greatest 4 sh 49 [some (.ref c), some (.int v1), some (.int v2), some (.int r7), some (.int (v4 + 1))] [] hp (some (.int res)) hp
      refine Fx.goto (-39) 10 (by decide +kernel) ?_
      obtain rfl := Option.some.inj hf
      have hk : Fx q_Mo_greatest 4 sh 10 [some (.ref c), some (.int v1), some (.int v2), some (.int r7), some (.int (v4 + 1))] [] hp (some (.int res)) hp := hk
      exact Fx.le hk (And.intro rfl (And.intro rfl (And.intro rfl (And.intro rfl (And.intro rfl trivial)))))
set_option maxHeartbeats 4000000 in
set_option maxRecDepth 20000 in
theorem t_Mo_greatest (sh : Shp) (c : Nat) (hS : S_Mo sh c) (hp : HP) (v1 : Int32) (v2 : Int32) (res : Int32) (hf : f_Mo_greatest c hp v1 v2 = some res) : Ex 4 q_Mo_greatest sh [.ref c, .int v1, .int v2] hp (some (.int res)) hp := by
  refine Ex.of [some (.ref c), some (.int v1), some (.int v2), none, none] rfl (Nat.le_of_ble_eq_true rfl) (by decide +kernel) rfl ?_
  obtain ⟨t, hk⟩ : ∃ t, t = res := ⟨res, rfl⟩
  rw [← hk] at hf
  unfold f_Mo_greatest at hf
  refine Fx.run [(.aload_n 0, 1, 0, 0, .null), (.iload_n 1, 1, 1, 0, .null), (.iload_n 2, 1, 2, 0, .null)] 3 (by decide +kernel) ?_
  show Fx q_Mo_greatest 4 sh 3 [some (.ref c), some (.int v1), some (.int v2), none, none] [.int v2, .int v1, .ref c] hp (some (.int res)) hp
  replace hf := bnd hf
  obtain ⟨r1, hr1, hf⟩ := hf
  refine Fx.callV (rr := (some (.int r1))) (hp1 := hp) [.int v1, .int v2] [] lk_9_59 (by decide +kernel) (t_Mo_endOf sh c (hS) hp v1 v2 r1 hr1) ⟨Nat.le_of_ble_eq_true rfl, Nat.le_of_ble_eq_true rfl⟩ (hS).1 (by decide) rfl (Nat.le_of_ble_eq_true rfl) ?_
  show Fx q_Mo_greatest 4 sh 6 [some (.ref c), some (.int v1), some (.int v2), none, none] [.int r1] hp (some (.int res)) hp
  refine Fx.run [(.istore_n 3, 1, 3, 0, .null), (.iconst 0, 1, 0, 0, .int 0), (.istore 4, 2, 4, 0, .null)] 10 (by decide +kernel) ?_
  show Fx q_Mo_greatest 4 sh 10 [some (.ref c), some (.int v1), some (.int v2), some (.int r1), some (.int 0)] [] hp (some (.int res)) hp
  have hl := t_Mo_greatest_l10 sh c hS hp v1 v2 res (r1, 0) _ hf hk
  have hl : Fx q_Mo_greatest 4 sh 10 [some (.ref c), some (.int v1), some (.int v2), some (.int r1), some (.int 0)] [] hp (some (.int res)) hp := hl
  exact Fx.le hl (And.intro rfl (And.intro rfl (And.intro rfl (And.intro rfl (And.intro rfl trivial)))))
set_option maxHeartbeats 4000000 in
set_option maxRecDepth 20000 in
theorem t_Mo_comesAhead (sh : Shp) (c : Nat) (hS : S_Mo sh c) (hp : HP) (v1 : Int32) (v2 : Int32) (v3 : Int32) (res : Int32) (hf : f_Mo_comesAhead c hp v1 v2 v3 = some res) : Ex 5 q_Mo_comesAhead sh [.ref c, .int v1, .int v2, .int v3] hp (some (.int res)) hp := by
  refine Ex.of [some (.ref c), some (.int v1), some (.int v2), some (.int v3)] rfl (Nat.le_of_ble_eq_true rfl) (by decide +kernel) rfl ?_
  obtain ⟨t, hk⟩ : ∃ t, t = res := ⟨res, rfl⟩
  rw [← hk] at hf
  unfold f_Mo_comesAhead at hf
  refine Fx.run [(.aload_n 0, 1, 0, 0, .null), (.iload_n 1, 1, 1, 0, .null), (.iload_n 2, 1, 2, 0, .null), (.iconst 1, 1, 0, 0, .int 1)] 4 (by decide +kernel) ?_
  show Fx q_Mo_comesAhead 5 sh 4 [some (.ref c), some (.int v1), some (.int v2), some (.int v3)] [.int 1, .int v2, .int v1, .ref c] hp (some (.int res)) hp
  replace hf := bnd hf
  obtain ⟨r1, hr1, hf⟩ := hf
  refine Fx.callV (rr := (some (.int r1))) (hp1 := hp) [.int v1, .int v2, .int 1] [] lk_9_44 (by decide +kernel) (t_Mo_of sh c (hS) hp v1 v2 1 r1 hr1) ⟨Nat.le_of_ble_eq_true rfl, Nat.le_of_ble_eq_true rfl⟩ (hS).1 (by decide) rfl (Nat.le_of_ble_eq_true rfl) ?_
  show Fx q_Mo_comesAhead 5 sh 7 [some (.ref c), some (.int v1), some (.int v2), some (.int v3)] [.int r1] hp (some (.int res)) hp
  refine Fx.run [(.aload_n 0, 1, 0, 0, .null), (.iload_n 1, 1, 1, 0, .null), (.iload_n 3, 1, 3, 0, .null), (.iconst 1, 1, 0, 0, .int 1)] 11 (by decide +kernel) ?_
  show Fx q_Mo_comesAhead 5 sh 11 [some (.ref c), some (.int v1), some (.int v2), some (.int v3)] [.int 1, .int v3, .int v1, .ref c, .int r1] hp (some (.int res)) hp
  replace hf := bnd hf
  obtain ⟨r2, hr2, hf⟩ := hf
  refine Fx.callV (rr := (some (.int r2))) (hp1 := hp) [.int v1, .int v3, .int 1] [.int r1] lk_9_44 (by decide +kernel) (t_Mo_of sh c (hS) hp v1 v3 1 r2 hr2) ⟨Nat.le_of_ble_eq_true rfl, Nat.le_of_ble_eq_true rfl⟩ (hS).1 (by decide) rfl (Nat.le_of_ble_eq_true rfl) ?_
  show Fx q_Mo_comesAhead 5 sh 14 [some (.ref c), some (.int v1), some (.int v2), some (.int v3)] [.int r2, .int r1] hp (some (.int res)) hp
  refine Fx.icmp_eq (26) 40 17 (by decide +kernel) (fun b3 => ?_) (fun b3 => ?_)
  · replace hf := ifp b3 hf
    refine Fx.run [(.aload_n 0, 1, 0, 0, .null), (.iload_n 1, 1, 1, 0, .null), (.iload_n 2, 1, 2, 0, .null)] 43 (by decide +kernel) ?_
    show Fx q_Mo_comesAhead 5 sh 43 [some (.ref c), some (.int v1), some (.int v2), some (.int v3)] [.int v2, .int v1, .ref c] hp (some (.int res)) hp
    replace hf := bnd hf
    obtain ⟨r4, hr4, hf⟩ := hf
    refine Fx.callV (rr := (some (.int r4))) (hp1 := hp) [.int v1, .int v2] [] lk_9_225 (by decide +kernel) (t_Mo_least sh c (hS) hp v1 v2 r4 hr4) ⟨Nat.le_of_ble_eq_true rfl, Nat.le_of_ble_eq_true rfl⟩ (hS).1 (by decide) rfl (Nat.le_of_ble_eq_true rfl) ?_
    show Fx q_Mo_comesAhead 5 sh 46 [some (.ref c), some (.int v1), some (.int v2), some (.int v3)] [.int r4] hp (some (.int res)) hp
    refine Fx.run [(.aload_n 0, 1, 0, 0, .null), (.iload_n 1, 1, 1, 0, .null), (.iload_n 3, 1, 3, 0, .null)] 49 (by decide +kernel) ?_
    show Fx q_Mo_comesAhead 5 sh 49 [some (.ref c), some (.int v1), some (.int v2), some (.int v3)] [.int v3, .int v1, .ref c, .int r4] hp (some (.int res)) hp
    replace hf := bnd hf
    obtain ⟨r5, hr5, hf⟩ := hf
    refine Fx.callV (rr := (some (.int r5))) (hp1 := hp) [.int v1, .int v3] [.int r4] lk_9_225 (by decide +kernel) (t_Mo_least sh c (hS) hp v1 v3 r5 hr5) ⟨Nat.le_of_ble_eq_true rfl, Nat.le_of_ble_eq_true rfl⟩ (hS).1 (by decide) rfl (Nat.le_of_ble_eq_true rfl) ?_
    show Fx q_Mo_comesAhead 5 sh 52 [some (.ref c), some (.int v1), some (.int v2), some (.int v3)] [.int r5, .int r4] hp (some (.int res)) hp
    refine Fx.icmp_eq (24) 76 55 (by decide +kernel) (fun b6 => ?_) (fun b6 => ?_)
    · replace hf := ifp b6 hf
      refine Fx.run [(.aload_n 0, 1, 0, 0, .null), (.iload_n 1, 1, 1, 0, .null), (.iload_n 2, 1, 2, 0, .null), (.iconst 4, 1, 0, 0, .int 4)] 80 (by decide +kernel) ?_
      show Fx q_Mo_comesAhead 5 sh 80 [some (.ref c), some (.int v1), some (.int v2), some (.int v3)] [.int 4, .int v2, .int v1, .ref c] hp (some (.int res)) hp
      replace hf := bnd hf
      obtain ⟨r7, hr7, hf⟩ := hf
      refine Fx.callV (rr := (some (.int r7))) (hp1 := hp) [.int v1, .int v2, .int 4] [] lk_9_44 (by decide +kernel) (t_Mo_of sh c (hS) hp v1 v2 4 r7 hr7) ⟨Nat.le_of_ble_eq_true rfl, Nat.le_of_ble_eq_true rfl⟩ (hS).1 (by decide) rfl (Nat.le_of_ble_eq_true rfl) ?_
      show Fx q_Mo_comesAhead 5 sh 83 [some (.ref c), some (.int v1), some (.int v2), some (.int v3)] [.int r7] hp (some (.int res)) hp
      refine Fx.run [(.aload_n 0, 1, 0, 0, .null), (.iload_n 1, 1, 1, 0, .null), (.iload_n 3, 1, 3, 0, .null), (.iconst 4, 1, 0, 0, .int 4)] 87 (by decide +kernel) ?_
      show Fx q_Mo_comesAhead 5 sh 87 [some (.ref c), some (.int v1), some (.int v2), some (.int v3)] [.int 4, .int v3, .int v1, .ref c, .int r7] hp (some (.int res)) hp
      replace hf := bnd hf
      obtain ⟨r8, hr8, hf⟩ := hf
      refine Fx.callV (rr := (some (.int r8))) (hp1 := hp) [.int v1, .int v3, .int 4] [.int r7] lk_9_44 (by decide +kernel) (t_Mo_of sh c (hS) hp v1 v3 4 r8 hr8) ⟨Nat.le_of_ble_eq_true rfl, Nat.le_of_ble_eq_true rfl⟩ (hS).1 (by decide) rfl (Nat.le_of_ble_eq_true rfl) ?_
      show Fx q_Mo_comesAhead 5 sh 90 [some (.ref c), some (.int v1), some (.int v2), some (.int v3)] [.int r8, .int r7] hp (some (.int res)) hp
      refine Fx.icmp_ge (7) 97 93 (by decide +kernel) (fun b9 => ?_) (fun b9 => ?_)
      · replace hf := ifp b9 hf
        refine Fx.run [(.iconst 0, 1, 0, 0, .int 0)] 98 (by decide +kernel) ?_
        show Fx q_Mo_comesAhead 5 sh 98 [some (.ref c), some (.int v1), some (.int v2), some (.int v3)] [.int 0] hp (some (.int res)) hp
        obtain rfl := Option.some.inj hf
        have hk : 0 = res := hk
        subst hk
        exact Fx.zret (by decide +kernel) rfl (Or.inl rfl)
      · replace hf := ifn b9 hf
        refine Fx.run [(.iconst 1, 1, 0, 0, .int 1)] 94 (by decide +kernel) ?_
        show Fx q_Mo_comesAhead 5 sh 94 [some (.ref c), some (.int v1), some (.int v2), some (.int v3)] [.int 1] hp (some (.int res)) hp
        refine Fx.goto (4) 98 (by decide +kernel) ?_
        obtain rfl := Option.some.inj hf
        have hk : 1 = res := hk
        subst hk
        exact Fx.zret (by decide +kernel) rfl (Or.inr rfl)
    · replace hf := ifn b6 hf
      refine Fx.run [(.aload_n 0, 1, 0, 0, .null), (.iload_n 1, 1, 1, 0, .null), (.iload_n 2, 1, 2, 0, .null)] 58 (by decide +kernel) ?_
      show Fx q_Mo_comesAhead 5 sh 58 [some (.ref c), some (.int v1), some (.int v2), some (.int v3)] [.int v2, .int v1, .ref c] hp (some (.int res)) hp
      replace hf := bnd hf
      obtain ⟨r10, hr10, hf⟩ := hf
      refine Fx.callV (rr := (some (.int r10))) (hp1 := hp) [.int v1, .int v2] [] lk_9_225 (by decide +kernel) (t_Mo_least sh c (hS) hp v1 v2 r10 hr10) ⟨Nat.le_of_ble_eq_true rfl, Nat.le_of_ble_eq_true rfl⟩ (hS).1 (by decide) rfl (Nat.le_of_ble_eq_true rfl) ?_
      show Fx q_Mo_comesAhead 5 sh 61 [some (.ref c), some (.int v1), some (.int v2), some (.int v3)] [.int r10] hp (some (.int res)) hp
      refine Fx.run [(.aload_n 0, 1, 0, 0, .null), (.iload_n 1, 1, 1, 0, .null), (.iload_n 3, 1, 3, 0, .null)] 64 (by decide +kernel) ?_
      show Fx q_Mo_comesAhead 5 sh 64 [some (.ref c), some (.int v1), some (.int v2), some (.int v3)] [.int v3, .int v1, .ref c, .int r10] hp (some (.int res)) hp
      replace hf := bnd hf
      obtain ⟨r11, hr11, hf⟩ := hf
      refine Fx.callV (rr := (some (.int r11))) (hp1 := hp) [.int v1, .int v3] [.int r10] lk_9_225 (by decide +kernel) (t_Mo_least sh c (hS) hp v1 v3 r11 hr11) ⟨Nat.le_of_ble_eq_true rfl, Nat.le_of_ble_eq_true rfl⟩ (hS).1 (by decide) rfl (Nat.le_of_ble_eq_true rfl) ?_
      show Fx q_Mo_comesAhead 5 sh 67 [some (.ref c), some (.int v1), some (.int v2), some (.int v3)] [.int r11, .int r10] hp (some (.int res)) hp
      refine Fx.icmp_ge (7) 74 70 (by decide +kernel) (fun b12 => ?_) (fun b12 => ?_)
      · replace hf := ifp b12 hf
        refine Fx.run [(.iconst 0, 1, 0, 0, .int 0)] 75 (by decide +kernel) ?_
        show Fx q_Mo_comesAhead 5 sh 75 [some (.ref c), some (.int v1), some (.int v2), some (.int v3)] [.int 0] hp (some (.int res)) hp
        obtain rfl := Option.some.inj hf
        have hk : 0 = res := hk
        subst hk
        exact Fx.zret (by decide +kernel) rfl (Or.inl rfl)
      · replace hf := ifn b12 hf
        refine Fx.run [(.iconst 1, 1, 0, 0, .int 1)] 71 (by decide +kernel) ?_
        show Fx q_Mo_comesAhead 5 sh 71 [some (.ref c), some (.int v1), some (.int v2), some (.int v3)] [.int 1] hp (some (.int res)) hp
        refine Fx.goto (4) 75 (by decide +kernel) ?_
        obtain rfl := Option.some.inj hf
        have hk : 1 = res := hk
        subst hk
        exact Fx.zret (by decide +kernel) rfl (Or.inr rfl)
  · replace hf := ifn b3 hf
    refine Fx.run [(.aload_n 0, 1, 0, 0, .null), (.iload_n 1, 1, 1, 0, .null), (.iload_n 2, 1, 2, 0, .null), (.iconst 1, 1, 0, 0, .int 1)] 21 (by decide +kernel) ?_
    show Fx q_Mo_comesAhead 5 sh 21 [some (.ref c), some (.int v1), some (.int v2), some (.int v3)] [.int 1, .int v2, .int v1, .ref c] hp (some (.int res)) hp
    replace hf := bnd hf
    obtain ⟨r13, hr13, hf⟩ := hf
    refine Fx.callV (rr := (some (.int r13))) (hp1 := hp) [.int v1, .int v2, .int 1] [] lk_9_44 (by decide +kernel) (t_Mo_of sh c (hS) hp v1 v2 1 r13 hr13) ⟨Nat.le_of_ble_eq_true rfl, Nat.le_of_ble_eq_true rfl⟩ (hS).1 (by decide) rfl (Nat.le_of_ble_eq_true rfl) ?_
    show Fx q_Mo_comesAhead 5 sh 24 [some (.ref c), some (.int v1), some (.int v2), some (.int v3)] [.int r13] hp (some (.int res)) hp
    refine Fx.run [(.aload_n 0, 1, 0, 0, .null), (.iload_n 1, 1, 1, 0, .null), (.iload_n 3, 1, 3, 0, .null), (.iconst 1, 1, 0, 0, .int 1)] 28 (by decide +kernel) ?_
    show Fx q_Mo_comesAhead 5 sh 28 [some (.ref c), some (.int v1), some (.int v2), some (.int v3)] [.int 1, .int v3, .int v1, .ref c, .int r13] hp (some (.int res)) hp
    replace hf := bnd hf
    obtain ⟨r14, hr14, hf⟩ := hf
    refine Fx.callV (rr := (some (.int r14))) (hp1 := hp) [.int v1, .int v3, .int 1] [.int r13] lk_9_44 (by decide +kernel) (t_Mo_of sh c (hS) hp v1 v3 1 r14 hr14) ⟨Nat.le_of_ble_eq_true rfl, Nat.le_of_ble_eq_true rfl⟩ (hS).1 (by decide) rfl (Nat.le_of_ble_eq_true rfl) ?_
    show Fx q_Mo_comesAhead 5 sh 31 [some (.ref c), some (.int v1), some (.int v2), some (.int v3)] [.int r14, .int r13] hp (some (.int res)) hp
    refine Fx.icmp_ge (7) 38 34 (by decide +kernel) (fun b15 => ?_) (fun b15 => ?_)
    · replace hf := ifp b15 hf
      refine Fx.run [(.iconst 0, 1, 0, 0, .int 0)] 39 (by decide +kernel) ?_
      show Fx q_Mo_comesAhead 5 sh 39 [some (.ref c), some (.int v1), some (.int v2), some (.int v3)] [.int 0] hp (some (.int res)) hp
      obtain rfl := Option.some.inj hf
      have hk : 0 = res := hk
      subst hk
      exact Fx.zret (by decide +kernel) rfl (Or.inl rfl)
    · replace hf := ifn b15 hf
      refine Fx.run [(.iconst 1, 1, 0, 0, .int 1)] 35 (by decide +kernel) ?_
      show Fx q_Mo_comesAhead 5 sh 35 [some (.ref c), some (.int v1), some (.int v2), some (.int v3)] [.int 1] hp (some (.int res)) hp
      refine Fx.goto (4) 39 (by decide +kernel) ?_
      obtain rfl := Option.some.inj hf
      have hk : 1 = res := hk
      subst hk
      exact Fx.zret (by decide +kernel) rfl (Or.inr rfl)
abbrev P_Mo_ones_2 (sh : Shp) (c : Nat) (hp : HP) (v1 : Int32) (v2 : Int32) (res : Int32) : (Int32) → Prop := fun s => Fx q_Mo_ones 6 sh 2 [some (.ref c), some (.int v1), some (.int v2), some (.int s), none, none] [] hp (some (.int res)) hp
abbrev P_Mo_ones_33 (sh : Shp) (c : Nat) (hp : HP) (v1 : Int32) (v2 : Int32) (v3 : Int32) (res : Int32) : (Int32 × Int32) → Prop := fun s => Fx q_Mo_ones 6 sh 33 [some (.ref c), some (.int v1), some (.int v2), some (.int v3), some (.int s.1), some (.int s.2)] [] hp (some (.int res)) hp
set_option maxHeartbeats 4000000 in
set_option maxRecDepth 20000 in
theorem t_Mo_ones_l33 (sh : Shp) (c : Nat) (hS : S_Mo sh c) (hp : HP) (v1 : Int32) (v2 : Int32) (v3 : Int32) (res : Int32) : ∀ (s : (Int32 × Int32)) (t : ((Int32) ⊕ Int32)), f_Mo_ones_l33 c hp v1 v2 v3 s = some t → (Kel (P_Mo_ones_2 sh c hp v1 v2 res) (fun v => v = res)) t → P_Mo_ones_33 sh c hp v1 v2 v3 res s := by
  refine loop_ind (P_Mo_ones_33 sh c hp v1 v2 v3 res) (Kel (P_Mo_ones_2 sh c hp v1 v2 res) (fun v => v = res)) ?_
  intro s t hf hk
  obtain ⟨v4, v5⟩ := s
  replace hf : f_Mo_ones_b33 c hp v1 v2 v3 v4 v5 = some t := hf
  show Fx q_Mo_ones 6 sh 33 [some (.ref c), some (.int v1), some (.int v2), some (.int v3), some (.int v4), some (.int v5)] [] hp (some (.int res)) hp
  unfold f_Mo_ones_b33 at hf
  replace hf := gd hf
  obtain ⟨g5, hf⟩ := hf
  refine Fx.run [(.iload 5, 2, 5, 0, .null), (.aload_n 0, 1, 0, 0, .null), (.getfield 9, 3, 9, 0, .ref 1), (.iconst 2, 1, 0, 0, .int 2), (.iload_n 1, 1, 1, 0, .null), (.iadd, 1, 0, 0, .null), (.iaload, 1, 4100, 0, .null)] 43 (by decide +kernel) ?_
  show isK sh c 9 ∧ (isA sh (c + 1) 10 4100 ∧ inb (2 + v1) 4100) ∧ Fx q_Mo_ones 6 sh 43 [some (.ref c), some (.int v1), some (.int v2), some (.int v3), some (.int v4), some (.int v5)] [.int (hp.1 (c + 1) (ix (2 + v1))), .int v5] hp (some (.int res)) hp
  refine ⟨hS.1, ⟨hS.2.1, g5⟩, ?_⟩
  refine Fx.icmp_ge (48) 91 46 (by decide +kernel) (fun b6 => ?_) (fun b6 => ?_)
  · replace hf := ifp b6 hf
    replace hf := mpd hf
    obtain ⟨t, hf, rfl⟩ := hf
    refine Fx.run [(.iload 4, 2, 4, 0, .null), (.iload_n 2, 1, 2, 0, .null)] 94 (by decide +kernel) ?_
    show Fx q_Mo_ones 6 sh 94 [some (.ref c), some (.int v1), some (.int v2), some (.int v3), some (.int v4), some (.int v5)] [.int v2, .int v4] hp (some (.int res)) hp
    refine Fx.icmp_ne (5) 99 97 (by decide +kernel) (fun b7 => ?_) (fun b7 => ?_)
    · replace hf := ifn b7 hf
      refine Fx.run [(.iinc 3 1, 3, 3, 0, .int 1)] 102 (by decide +kernel) ?_
      show Fx q_Mo_ones 6 sh 102 [some (.ref c), some (.int v1), some (.int v2), some (.int (v3 + 1)), some (.int v4), some (.int v5)] [] hp (some (.int res)) hp
      refine Fx.goto (-100) 2 (by decide +kernel) ?_
      obtain rfl := Option.some.inj hf
      have hk : Fx q_Mo_ones 6 sh 2 [some (.ref c), some (.int v1), some (.int v2), some (.int (v3 + 1)), none, none] [] hp (some (.int res)) hp := hk
      exact Fx.le hk (And.intro rfl (And.intro rfl (And.intro rfl (And.intro rfl trivial))))
    · replace hf := ifp b7 hf
      replace hf := mpd hf
      obtain ⟨t, hf, rfl⟩ := hf
      refine Fx.run [(.iload_n 3, 1, 3, 0, .null)] 98 (by decide +kernel) ?_
      show Fx q_Mo_ones 6 sh 98 [some (.ref c), some (.int v1), some (.int v2), some (.int v3), some (.int v4), some (.int v5)] [.int v3] hp (some (.int res)) hp
      obtain rfl := Option.some.inj hf
      have hk : v3 = res := hk
      subst hk
      exact Fx.iret (by decide +kernel) rfl
  · replace hf := ifn b6 hf
    replace hf := gd hf
    obtain ⟨g8, hf⟩ := hf
    refine Fx.run [(.iload 4, 2, 4, 0, .null), (.aload_n 0, 1, 0, 0, .null), (.getfield 25, 3, 9, 7, .ref 6), (.iload 5, 2, 5, 0, .null), (.iaload, 1, 40, 0, .null), (.iload 5, 2, 5, 0, .null)] 57 (by decide +kernel) ?_
    show isK sh c 9 ∧ (isA sh (c + 6) 10 40 ∧ inb v5 40) ∧ Fx q_Mo_ones 6 sh 57 [some (.ref c), some (.int v1), some (.int v2), some (.int v3), some (.int v4), some (.int v5)] [.int v5, .int (hp.1 (c + 6) (ix v5)), .int v4] hp (some (.int res)) hp
    refine ⟨hS.1, ⟨hS.2.2.2.2.2.2.1, g8⟩, ?_⟩
    refine Fx.icmp_ne (24) 81 60 (by decide +kernel) (fun b9 => ?_) (fun b9 => ?_)
    · replace hf := ifn b9 hf
      refine Fx.run [(.iconst 0, 1, 0, 0, .int 0), (.iadd, 1, 0, 0, .null), (.istore 4, 2, 4, 0, .null), (.iinc 5 1, 3, 5, 0, .int 1)] 88 (by decide +kernel) ?_
      show Fx q_Mo_ones 6 sh 88 [some (.ref c), some (.int v1), some (.int v2), some (.int v3), some (.int (v4 + 0)), some (.int (v5 + 1))] [] hp (some (.int res)) hp
      refine Fx.goto (-55) 33 (by decide +kernel) ?_
      obtain rfl := Option.some.inj hf
      have hk : Fx q_Mo_ones 6 sh 33 [some (.ref c), some (.int v1), some (.int v2), some (.int v3), some (.int (v4 + 0)), some (.int (v5 + 1))] [] hp (some (.int res)) hp := hk
      exact Fx.le hk (And.intro rfl (And.intro rfl (And.intro rfl (And.intro rfl (And.intro rfl (And.intro rfl trivial))))))
    · replace hf := ifp b9 hf
      refine Fx.run [(.iload 5, 2, 5, 0, .null), (.iload_n 3, 1, 3, 0, .null)] 63 (by decide +kernel) ?_
      show Fx q_Mo_ones 6 sh 63 [some (.ref c), some (.int v1), some (.int v2), some (.int v3), some (.int v4), some (.int v5)] [.int v3, .int v5, .int v4] hp (some (.int res)) hp
      refine Fx.icmp_eq (18) 81 66 (by decide +kernel) (fun b10 => ?_) (fun b10 => ?_)
      · replace hf := ifp b10 hf
        refine Fx.run [(.iconst 0, 1, 0, 0, .int 0), (.iadd, 1, 0, 0, .null), (.istore 4, 2, 4, 0, .null), (.iinc 5 1, 3, 5, 0, .int 1)] 88 (by decide +kernel) ?_
        show Fx q_Mo_ones 6 sh 88 [some (.ref c), some (.int v1), some (.int v2), some (.int v3), some (.int (v4 + 0)), some (.int (v5 + 1))] [] hp (some (.int res)) hp
        refine Fx.goto (-55) 33 (by decide +kernel) ?_
        obtain rfl := Option.some.inj hf
        have hk : Fx q_Mo_ones 6 sh 33 [some (.ref c), some (.int v1), some (.int v2), some (.int v3), some (.int (v4 + 0)), some (.int (v5 + 1))] [] hp (some (.int res)) hp := hk
        exact Fx.le hk (And.intro rfl (And.intro rfl (And.intro rfl (And.intro rfl (And.intro rfl (And.intro rfl trivial))))))
      · replace hf := ifn b10 hf
        refine Fx.run [(.aload_n 0, 1, 0, 0, .null), (.iload_n 1, 1, 1, 0, .null), (.iload 5, 2, 5, 0, .null), (.iload_n 3, 1, 3, 0, .null)] 71 (by decide +kernel) ?_
        show Fx q_Mo_ones 6 sh 71 [some (.ref c), some (.int v1), some (.int v2), some (.int v3), some (.int v4), some (.int v5)] [.int v3, .int v5, .int v1, .ref c, .int v4] hp (some (.int res)) hp
        replace hf := bnd hf
        obtain ⟨r11, hr11, hf⟩ := hf
        refine Fx.callV (rr := (some (.int r11))) (hp1 := hp) [.int v1, .int v5, .int v3] [.int v4] lk_9_228 (by decide +kernel) (t_Mo_comesAhead sh c (hS) hp v1 v5 v3 r11 hr11) ⟨Nat.le_of_ble_eq_true rfl, Nat.le_of_ble_eq_true rfl⟩ (hS).1 (by decide) rfl (Nat.le_of_ble_eq_true rfl) ?_
        show Fx q_Mo_ones 6 sh 74 [some (.ref c), some (.int v1), some (.int v2), some (.int v3), some (.int v4), some (.int v5)] [.int r11, .int v4] hp (some (.int res)) hp
        refine Fx.if_eq (7) 81 77 (by decide +kernel) (fun b12 => ?_) (fun b12 => ?_)
        · replace hf := ifp b12 hf
          refine Fx.run [(.iconst 0, 1, 0, 0, .int 0), (.iadd, 1, 0, 0, .null), (.istore 4, 2, 4, 0, .null), (.iinc 5 1, 3, 5, 0, .int 1)] 88 (by decide +kernel) ?_
          show Fx q_Mo_ones 6 sh 88 [some (.ref c), some (.int v1), some (.int v2), some (.int v3), some (.int (v4 + 0)), some (.int (v5 + 1))] [] hp (some (.int res)) hp
          refine Fx.goto (-55) 33 (by decide +kernel) ?_
          obtain rfl := Option.some.inj hf
          have hk : Fx q_Mo_ones 6 sh 33 [some (.ref c), some (.int v1), some (.int v2), some (.int v3), some (.int (v4 + 0)), some (.int (v5 + 1))] [] hp (some (.int res)) hp := hk
          exact Fx.le hk (And.intro rfl (And.intro rfl (And.intro rfl (And.intro rfl (And.intro rfl (And.intro rfl trivial))))))
        · replace hf := ifn b12 hf
          refine Fx.run [(.iconst 1, 1, 0, 0, .int 1)] 78 (by decide +kernel) ?_
          show Fx q_Mo_ones 6 sh 78 [some (.ref c), some (.int v1), some (.int v2), some (.int v3), some (.int v4), some (.int v5)] [.int 1, .int v4] hp (some (.int res)) hp
          refine Fx.goto (4) 82 (by decide +kernel) ?_
          refine Fx.run [(.iadd, 1, 0, 0, .null), (.istore 4, 2, 4, 0, .null), (.iinc 5 1, 3, 5, 0, .int 1)] 88 (by decide +kernel) ?_
          show Fx q_Mo_ones 6 sh 88 [some (.ref c), some (.int v1), some (.int v2), some (.int v3), some (.int (v4 + 1)), some (.int (v5 + 1))] [] hp (some (.int res)) hp
          refine Fx.goto (-55) 33 (by decide +kernel) ?_
          obtain rfl := Option.some.inj hf
          have hk : Fx q_Mo_ones 6 sh 33 [some (.ref c), some (.int v1), some (.int v2), some (.int v3), some (.int (v4 + 1)), some (.int (v5 + 1))] [] hp (some (.int res)) hp := hk
          exact Fx.le hk (And.intro rfl (And.intro rfl (And.intro rfl (And.intro rfl (And.intro rfl (And.intro rfl trivial))))))
set_option maxHeartbeats 4000000 in
set_option maxRecDepth 20000 in
theorem t_Mo_ones_l2 (sh : Shp) (c : Nat) (hS : S_Mo sh c) (hp : HP) (v1 : Int32) (v2 : Int32) (res : Int32) : ∀ (s : (Int32)) (t : Int32), f_Mo_ones_l2 c hp v1 v2 s = some t → (fun v => v = res) t → P_Mo_ones_2 sh c hp v1 v2 res s := by
  refine loop_ind (P_Mo_ones_2 sh c hp v1 v2 res) (fun v => v = res) ?_
  intro s t hf hk
  revert hf hk; revert s; intro v3 hf hk
  replace hf : f_Mo_ones_b2 c hp v1 v2 v3 = some t := hf
  show Fx q_Mo_ones 6 sh 2 [some (.ref c), some (.int v1), some (.int v2), some (.int v3), none, none] [] hp (some (.int res)) hp
  unfold f_Mo_ones_b2 at hf
  replace hf := gd hf
  obtain ⟨g1, hf⟩ := hf
  refine Fx.run [(.iload_n 3, 1, 3, 0, .null), (.aload_n 0, 1, 0, 0, .null), (.getfield 9, 3, 9, 0, .ref 1), (.iconst 2, 1, 0, 0, .int 2), (.iload_n 1, 1, 1, 0, .null), (.iadd, 1, 0, 0, .null), (.iaload, 1, 4100, 0, .null)] 11 (by decide +kernel) ?_
  show isK sh c 9 ∧ (isA sh (c + 1) 10 4100 ∧ inb (2 + v1) 4100) ∧ Fx q_Mo_ones 6 sh 11 [some (.ref c), some (.int v1), some (.int v2), some (.int v3), none, none] [.int (hp.1 (c + 1) (ix (2 + v1))), .int v3] hp (some (.int res)) hp
  refine ⟨hS.1, ⟨hS.2.1, g1⟩, ?_⟩
  refine Fx.icmp_ge (94) 105 14 (by decide +kernel) (fun b2 => ?_) (fun b2 => ?_)
  · replace hf := ifp b2 hf
    replace hf := mpd hf
    obtain ⟨t, hf, rfl⟩ := hf
    refine Fx.run [(.iconst (-1), 1, 0, 0, .int (-1))] 106 (by decide +kernel) ?_
    show Fx q_Mo_ones 6 sh 106 [some (.ref c), some (.int v1), some (.int v2), some (.int v3), none, none] [.int (-1)] hp (some (.int res)) hp
    obtain rfl := Option.some.inj hf
    have hk : (-1) = res := hk
    subst hk
    exact Fx.iret (by decide +kernel) rfl
  · replace hf := ifn b2 hf
    replace hf := gd hf
    obtain ⟨g3, hf⟩ := hf
    refine Fx.run [(.aload_n 0, 1, 0, 0, .null), (.getfield 25, 3, 9, 7, .ref 6), (.iload_n 3, 1, 3, 0, .null), (.iaload, 1, 40, 0, .null), (.iload_n 3, 1, 3, 0, .null)] 21 (by decide +kernel) ?_
    show isK sh c 9 ∧ (isA sh (c + 6) 10 40 ∧ inb v3 40) ∧ Fx q_Mo_ones 6 sh 21 [some (.ref c), some (.int v1), some (.int v2), some (.int v3), none, none] [.int v3, .int (hp.1 (c + 6) (ix v3))] hp (some (.int res)) hp
    refine ⟨hS.1, ⟨hS.2.2.2.2.2.2.1, g3⟩, ?_⟩
    refine Fx.icmp_eq (6) 27 24 (by decide +kernel) (fun b4 => ?_) (fun b4 => ?_)
    · replace hf := ifp b4 hf
      refine Fx.run [(.iconst 0, 1, 0, 0, .int 0), (.istore 4, 2, 4, 0, .null), (.iconst 0, 1, 0, 0, .int 0), (.istore 5, 2, 5, 0, .null)] 33 (by decide +kernel) ?_
      show Fx q_Mo_ones 6 sh 33 [some (.ref c), some (.int v1), some (.int v2), some (.int v3), some (.int 0), some (.int 0)] [] hp (some (.int res)) hp
      have hl := t_Mo_ones_l33 sh c hS hp v1 v2 v3 res (0, 0) _ hf hk
      have hl : Fx q_Mo_ones 6 sh 33 [some (.ref c), some (.int v1), some (.int v2), some (.int v3), some (.int 0), some (.int 0)] [] hp (some (.int res)) hp := hl
      exact Fx.le hl (And.intro rfl (And.intro rfl (And.intro rfl (And.intro rfl (And.intro rfl (And.intro rfl trivial))))))
    · replace hf := ifn b4 hf
      refine Fx.goto (75) 99 (by decide +kernel) ?_
      refine Fx.run [(.iinc 3 1, 3, 3, 0, .int 1)] 102 (by decide +kernel) ?_
      show Fx q_Mo_ones 6 sh 102 [some (.ref c), some (.int v1), some (.int v2), some (.int (v3 + 1)), none, none] [] hp (some (.int res)) hp
      refine Fx.goto (-100) 2 (by decide +kernel) ?_
      obtain rfl := Option.some.inj hf
      have hk : Fx q_Mo_ones 6 sh 2 [some (.ref c), some (.int v1), some (.int v2), some (.int (v3 + 1)), none, none] [] hp (some (.int res)) hp := hk
      exact Fx.le hk (And.intro rfl (And.intro rfl (And.intro rfl (And.intro rfl trivial))))
set_option maxHeartbeats 4000000 in
set_option maxRecDepth 20000 in
theorem t_Mo_ones (sh : Shp) (c : Nat) (hS : S_Mo sh c) (hp : HP) (v1 : Int32) (v2 : Int32) (res : Int32) (hf : f_Mo_ones c hp v1 v2 = some res) : Ex 6 q_Mo_ones sh [.ref c, .int v1, .int v2] hp (some (.int res)) hp := by
  refine Ex.of [some (.ref c), some (.int v1), some (.int v2), none, none, none] rfl (Nat.le_of_ble_eq_true rfl) (by decide +kernel) rfl ?_
  obtain ⟨t, hk⟩ : ∃ t, t = res := ⟨res, rfl⟩
  rw [← hk] at hf
  unfold f_Mo_ones at hf
  refine Fx.run [(.iconst 0, 1, 0, 0, .int 0), (.istore_n 3, 1, 3, 0, .null)] 2 (by decide +kernel) ?_
  show Fx q_Mo_ones 6 sh 2 [some (.ref c), some (.int v1), some (.int v2), some (.int 0), none, none] [] hp (some (.int res)) hp
  have hl := t_Mo_ones_l2 sh c hS hp v1 v2 res 0 _ hf hk
  have hl : Fx q_Mo_ones 6 sh 2 [some (.ref c), some (.int v1), some (.int v2), some (.int 0), none, none] [] hp (some (.int res)) hp := hl
  exact Fx.le hl (And.intro rfl (And.intro rfl (And.intro rfl (And.intro rfl trivial))))
abbrev P_Mo_one_21 (sh : Shp) (c : Nat) (hp : HP) (v1 : Int32) (v2 : Int32) (v3 : Int32) (res : (HP × Int32)) : (Int32 × Int32) → Prop := fun s => Fx q_Mo_one 7 sh 21 [some (.ref c), some (.int v1), some (.int v2), some (.int v3), some (.int s.1), some (.int s.2), none, none] [] hp (some (.int res.2)) res.1
abbrev P_Mo_one_99 (sh : Shp) (c : Nat) (hp : HP) (v1 : Int32) (v3 : Int32) (v5 : Int32) (res : (HP × Int32)) : (Int32 × Int32) → Prop := fun s => Fx q_Mo_one 7 sh 99 [some (.ref c), some (.int v1), none, some (.int v3), none, some (.int v5), some (.int s.1), some (.int s.2)] [] hp (some (.int res.2)) res.1
set_option maxHeartbeats 4000000 in
set_option maxRecDepth 20000 in
theorem t_Mo_one_l99 (sh : Shp) (c : Nat) (hS : S_Mo sh c) (hp : HP) (v1 : Int32) (v3 : Int32) (v5 : Int32) (res : (HP × Int32)) : ∀ (s : (Int32 × Int32)) (t : (HP × Int32)), f_Mo_one_l99 c hp v1 v3 v5 s = some t → (fun v => v = res) t → P_Mo_one_99 sh c hp v1 v3 v5 res s := by
  refine loop_ind (P_Mo_one_99 sh c hp v1 v3 v5 res) (fun v => v = res) ?_
  intro s t hf hk
  obtain ⟨v6, v7⟩ := s
  replace hf : f_Mo_one_b99 c hp v1 v3 v5 v6 v7 = some t := hf
  show Fx q_Mo_one 7 sh 99 [some (.ref c), some (.int v1), none, some (.int v3), none, some (.int v5), some (.int v6), some (.int v7)] [] hp (some (.int res.2)) res.1
  unfold f_Mo_one_b99 at hf
  replace hf := gd hf
  obtain ⟨g11, hf⟩ := hf
  refine Fx.run [(.iload 7, 2, 7, 0, .null), (.aload_n 0, 1, 0, 0, .null), (.getfield 9, 3, 9, 0, .ref 1), (.iconst 2, 1, 0, 0, .int 2), (.iload_n 1, 1, 1, 0, .null), (.iadd, 1, 0, 0, .null), (.iaload, 1, 4100, 0, .null)] 109 (by decide +kernel) ?_
  show isK sh c 9 ∧ (isA sh (c + 1) 10 4100 ∧ inb (2 + v1) 4100) ∧ Fx q_Mo_one 7 sh 109 [some (.ref c), some (.int v1), none, some (.int v3), none, some (.int v5), some (.int v6), some (.int v7)] [.int (hp.1 (c + 1) (ix (2 + v1))), .int v7] hp (some (.int res.2)) res.1
  refine ⟨hS.1, ⟨hS.2.1, g11⟩, ?_⟩
  refine Fx.icmp_ge (31) 140 112 (by decide +kernel) (fun b12 => ?_) (fun b12 => ?_)
  · replace hf := ifp b12 hf
    replace hf := mpd hf
    obtain ⟨t, hf, rfl⟩ := hf
    refine Fx.run [(.iload_n 3, 1, 3, 0, .null)] 141 (by decide +kernel) ?_
    show Fx q_Mo_one 7 sh 141 [some (.ref c), some (.int v1), none, some (.int v3), none, some (.int v5), some (.int v6), some (.int v7)] [.int v3] hp (some (.int res.2)) res.1
    by_cases b19 : v3 = 0
    · replace hf := ifp b19 hf
      refine Fx.swX 0 176 b19 (by decide +kernel) ?_
      refine Fx.run [(.aload_n 0, 1, 0, 0, .null), (.iload_n 1, 1, 1, 0, .null), (.iload 5, 2, 5, 0, .null), (.iconst 1, 1, 0, 0, .int 1)] 181 (by decide +kernel) ?_
      show Fx q_Mo_one 7 sh 181 [some (.ref c), some (.int v1), none, some (.int v3), none, some (.int v5), some (.int v6), some (.int v7)] [.int 1, .int v5, .int v1, .ref c] hp (some (.int res.2)) res.1
      replace hf := bnd hf
      obtain ⟨r13, hr13, hf⟩ := hf
      refine Fx.callV (rr := (some (.int r13))) (hp1 := hp) [.int v1, .int v5, .int 1] [] lk_9_44 (by decide +kernel) (t_Mo_of sh c (hS) hp v1 v5 1 r13 hr13) ⟨Nat.le_of_ble_eq_true rfl, Nat.le_of_ble_eq_true rfl⟩ (hS).1 (by decide) rfl (Nat.le_of_ble_eq_true rfl) ?_
      show Fx q_Mo_one 7 sh 184 [some (.ref c), some (.int v1), none, some (.int v3), none, some (.int v5), some (.int v6), some (.int v7)] [.int r13] hp (some (.int res.2)) res.1
      obtain rfl := Option.some.inj hf
      have hk : (hp, r13) = res := hk
      subst hk
      exact Fx.iret (by decide +kernel) rfl
    replace hf := ifn b19 hf
    by_cases b20 : v3 = 1
    · replace hf := ifp b20 hf
      refine Fx.swX 1 185 b20 (by decide +kernel) ?_
      refine Fx.run [(.aload_n 0, 1, 0, 0, .null), (.iload_n 1, 1, 1, 0, .null), (.iload 5, 2, 5, 0, .null)] 189 (by decide +kernel) ?_
      show Fx q_Mo_one 7 sh 189 [some (.ref c), some (.int v1), none, some (.int v3), none, some (.int v5), some (.int v6), some (.int v7)] [.int v5, .int v1, .ref c] hp (some (.int res.2)) res.1
      replace hf := bnd hf
      obtain ⟨r14, hr14, hf⟩ := hf
      refine Fx.callV (rr := (some (.int r14))) (hp1 := hp) [.int v1, .int v5] [] lk_9_225 (by decide +kernel) (t_Mo_least sh c (hS) hp v1 v5 r14 hr14) ⟨Nat.le_of_ble_eq_true rfl, Nat.le_of_ble_eq_true rfl⟩ (hS).1 (by decide) rfl (Nat.le_of_ble_eq_true rfl) ?_
      show Fx q_Mo_one 7 sh 192 [some (.ref c), some (.int v1), none, some (.int v3), none, some (.int v5), some (.int v6), some (.int v7)] [.int r14] hp (some (.int res.2)) res.1
      replace hf := bnd hf
      obtain ⟨r15, hr15, hf⟩ := hf
      refine Fx.callS (rr := (some (.int r15))) (hp1 := hp) [.int r14] [] lk_9_164 (by decide +kernel) (t_Mo_time sh hp r14 r15 hr15) ⟨Nat.le_of_ble_eq_true rfl, Nat.le_of_ble_eq_true rfl⟩ rfl (Nat.le_of_ble_eq_true rfl) ?_
      show Fx q_Mo_one 7 sh 195 [some (.ref c), some (.int v1), none, some (.int v3), none, some (.int v5), some (.int v6), some (.int v7)] [.int r15] hp (some (.int res.2)) res.1
      obtain rfl := Option.some.inj hf
      have hk : (hp, r15) = res := hk
      subst hk
      exact Fx.iret (by decide +kernel) rfl
    replace hf := ifn b20 hf
    by_cases b21 : v3 = 2
    · replace hf := ifp b21 hf
      refine Fx.swX 2 196 b21 (by decide +kernel) ?_
      refine Fx.run [(.aload_n 0, 1, 0, 0, .null), (.iload_n 1, 1, 1, 0, .null), (.iload 5, 2, 5, 0, .null)] 200 (by decide +kernel) ?_
      show Fx q_Mo_one 7 sh 200 [some (.ref c), some (.int v1), none, some (.int v3), none, some (.int v5), some (.int v6), some (.int v7)] [.int v5, .int v1, .ref c] hp (some (.int res.2)) res.1
      replace hf := bnd hf
      obtain ⟨r16, hr16, hf⟩ := hf
      refine Fx.callV (rr := (some (.int r16))) (hp1 := hp) [.int v1, .int v5] [] lk_9_237 (by decide +kernel) (t_Mo_greatest sh c (hS) hp v1 v5 r16 hr16) ⟨Nat.le_of_ble_eq_true rfl, Nat.le_of_ble_eq_true rfl⟩ (hS).1 (by decide) rfl (Nat.le_of_ble_eq_true rfl) ?_
      show Fx q_Mo_one 7 sh 203 [some (.ref c), some (.int v1), none, some (.int v3), none, some (.int v5), some (.int v6), some (.int v7)] [.int r16] hp (some (.int res.2)) res.1
      replace hf := bnd hf
      obtain ⟨r17, hr17, hf⟩ := hf
      refine Fx.callS (rr := (some (.int r17))) (hp1 := hp) [.int r16] [] lk_9_164 (by decide +kernel) (t_Mo_time sh hp r16 r17 hr17) ⟨Nat.le_of_ble_eq_true rfl, Nat.le_of_ble_eq_true rfl⟩ rfl (Nat.le_of_ble_eq_true rfl) ?_
      show Fx q_Mo_one 7 sh 206 [some (.ref c), some (.int v1), none, some (.int v3), none, some (.int v5), some (.int v6), some (.int v7)] [.int r17] hp (some (.int res.2)) res.1
      obtain rfl := Option.some.inj hf
      have hk : (hp, r17) = res := hk
      subst hk
      exact Fx.iret (by decide +kernel) rfl
    replace hf := ifn b21 hf
    by_cases b22 : v3 = 3
    · replace hf := ifp b22 hf
      refine Fx.swX 3 207 b22 (by decide +kernel) ?_
      refine Fx.run [(.aload_n 0, 1, 0, 0, .null), (.iload_n 1, 1, 1, 0, .null), (.iload 5, 2, 5, 0, .null), (.iconst 4, 1, 0, 0, .int 4)] 212 (by decide +kernel) ?_
      show Fx q_Mo_one 7 sh 212 [some (.ref c), some (.int v1), none, some (.int v3), none, some (.int v5), some (.int v6), some (.int v7)] [.int 4, .int v5, .int v1, .ref c] hp (some (.int res.2)) res.1
      replace hf := bnd hf
      obtain ⟨r18, hr18, hf⟩ := hf
      refine Fx.callV (rr := (some (.int r18))) (hp1 := hp) [.int v1, .int v5, .int 4] [] lk_9_44 (by decide +kernel) (t_Mo_of sh c (hS) hp v1 v5 4 r18 hr18) ⟨Nat.le_of_ble_eq_true rfl, Nat.le_of_ble_eq_true rfl⟩ (hS).1 (by decide) rfl (Nat.le_of_ble_eq_true rfl) ?_
      show Fx q_Mo_one 7 sh 215 [some (.ref c), some (.int v1), none, some (.int v3), none, some (.int v5), some (.int v6), some (.int v7)] [.int r18] hp (some (.int res.2)) res.1
      obtain rfl := Option.some.inj hf
      have hk : (hp, r18) = res := hk
      subst hk
      exact Fx.iret (by decide +kernel) rfl
    replace hf := ifn b22 hf
    by_cases b23 : v3 = 4
    · replace hf := ifp b23 hf
      refine Fx.swX 4 216 b23 (by decide +kernel) ?_
      refine Fx.run [(.iload 6, 2, 6, 0, .null)] 218 (by decide +kernel) ?_
      show Fx q_Mo_one 7 sh 218 [some (.ref c), some (.int v1), none, some (.int v3), none, some (.int v5), some (.int v6), some (.int v7)] [.int v6] hp (some (.int res.2)) res.1
      obtain rfl := Option.some.inj hf
      have hk : (hp, v6) = res := hk
      subst hk
      exact Fx.iret (by decide +kernel) rfl
    replace hf := ifn b23 hf
    refine Fx.swD [0, 1, 2, 3, 4] 219 (by decide +kernel) (List.forall_mem_cons.mpr ⟨b19, (List.forall_mem_cons.mpr ⟨b20, (List.forall_mem_cons.mpr ⟨b21, (List.forall_mem_cons.mpr ⟨b22, (List.forall_mem_cons.mpr ⟨b23, (fun _ h => absurd h List.not_mem_nil)⟩)⟩)⟩)⟩)⟩) ?_
    refine Fx.run [(.ldc 79, 2, 0, 0, .int (-10000000))] 221 (by decide +kernel) ?_
    show Fx q_Mo_one 7 sh 221 [some (.ref c), some (.int v1), none, some (.int v3), none, some (.int v5), some (.int v6), some (.int v7)] [.int (-10000000)] hp (some (.int res.2)) res.1
    obtain rfl := Option.some.inj hf
    have hk : (hp, (-10000000)) = res := hk
    subst hk
    exact Fx.iret (by decide +kernel) rfl
  · replace hf := ifn b12 hf
    replace hf := gd hf
    obtain ⟨g24, hf⟩ := hf
    refine Fx.run [(.iload 6, 2, 6, 0, .null), (.aload_n 0, 1, 0, 0, .null), (.getfield 25, 3, 9, 7, .ref 6), (.iload 7, 2, 7, 0, .null), (.iaload, 1, 40, 0, .null), (.iload 5, 2, 5, 0, .null)] 123 (by decide +kernel) ?_
    show isK sh c 9 ∧ (isA sh (c + 6) 10 40 ∧ inb v7 40) ∧ Fx q_Mo_one 7 sh 123 [some (.ref c), some (.int v1), none, some (.int v3), none, some (.int v5), some (.int v6), some (.int v7)] [.int v5, .int (hp.1 (c + 6) (ix v7)), .int v6] hp (some (.int res.2)) res.1
    refine ⟨hS.1, ⟨hS.2.2.2.2.2.2.1, g24⟩, ?_⟩
    refine Fx.icmp_ne (7) 130 126 (by decide +kernel) (fun b25 => ?_) (fun b25 => ?_)
    · replace hf := ifn b25 hf
      refine Fx.run [(.iconst 0, 1, 0, 0, .int 0), (.iadd, 1, 0, 0, .null), (.istore 6, 2, 6, 0, .null), (.iinc 7 1, 3, 7, 0, .int 1)] 137 (by decide +kernel) ?_
      show Fx q_Mo_one 7 sh 137 [some (.ref c), some (.int v1), none, some (.int v3), none, some (.int v5), some (.int (v6 + 0)), some (.int (v7 + 1))] [] hp (some (.int res.2)) res.1
      refine Fx.goto (-38) 99 (by decide +kernel) ?_
      obtain rfl := Option.some.inj hf
      have hk : Fx q_Mo_one 7 sh 99 [some (.ref c), some (.int v1), none, some (.int v3), none, some (.int v5), some (.int (v6 + 0)), some (.int (v7 + 1))] [] hp (some (.int res.2)) res.1 := hk
      exact Fx.le hk (And.intro rfl (And.intro rfl (And.intro rfl (And.intro rfl (And.intro rfl (And.intro rfl trivial))))))
    · replace hf := ifp b25 hf
      refine Fx.run [(.iconst 1, 1, 0, 0, .int 1)] 127 (by decide +kernel) ?_
      show Fx q_Mo_one 7 sh 127 [some (.ref c), some (.int v1), none, some (.int v3), none, some (.int v5), some (.int v6), some (.int v7)] [.int 1, .int v6] hp (some (.int res.2)) res.1
      refine Fx.goto (4) 131 (by decide +kernel) ?_
      refine Fx.run [(.iadd, 1, 0, 0, .null), (.istore 6, 2, 6, 0, .null), (.iinc 7 1, 3, 7, 0, .int 1)] 137 (by decide +kernel) ?_
      show Fx q_Mo_one 7 sh 137 [some (.ref c), some (.int v1), none, some (.int v3), none, some (.int v5), some (.int (v6 + 1)), some (.int (v7 + 1))] [] hp (some (.int res.2)) res.1
      refine Fx.goto (-38) 99 (by decide +kernel) ?_
      obtain rfl := Option.some.inj hf
      have hk : Fx q_Mo_one 7 sh 99 [some (.ref c), some (.int v1), none, some (.int v3), none, some (.int v5), some (.int (v6 + 1)), some (.int (v7 + 1))] [] hp (some (.int res.2)) res.1 := hk
      exact Fx.le hk (And.intro rfl (And.intro rfl (And.intro rfl (And.intro rfl (And.intro rfl (And.intro rfl trivial))))))
set_option maxHeartbeats 4000000 in
set_option maxRecDepth 20000 in
theorem t_Mo_one_l21 (sh : Shp) (c : Nat) (hS : S_Mo sh c) (hp : HP) (v1 : Int32) (v2 : Int32) (v3 : Int32) (res : (HP × Int32)) : ∀ (s : (Int32 × Int32)) (t : (HP × Int32)), f_Mo_one_l21 c hp v1 v2 v3 s = some t → (fun v => v = res) t → P_Mo_one_21 sh c hp v1 v2 v3 res s := by
  refine loop_ind (P_Mo_one_21 sh c hp v1 v2 v3 res) (fun v => v = res) ?_
  intro s t hf hk
  obtain ⟨v4, v5⟩ := s
  replace hf : f_Mo_one_b21 c hp v1 v2 v3 v4 v5 = some t := hf
  show Fx q_Mo_one 7 sh 21 [some (.ref c), some (.int v1), some (.int v2), some (.int v3), some (.int v4), some (.int v5), none, none] [] hp (some (.int res.2)) res.1
  unfold f_Mo_one_b21 at hf
  replace hf := gd hf
  obtain ⟨g5, hf⟩ := hf
  refine Fx.run [(.iload 5, 2, 5, 0, .null), (.aload_n 0, 1, 0, 0, .null), (.getfield 9, 3, 9, 0, .ref 1), (.iconst 2, 1, 0, 0, .int 2), (.iload_n 1, 1, 1, 0, .null), (.iadd, 1, 0, 0, .null), (.iaload, 1, 4100, 0, .null)] 31 (by decide +kernel) ?_
  show isK sh c 9 ∧ (isA sh (c + 1) 10 4100 ∧ inb (2 + v1) 4100) ∧ Fx q_Mo_one 7 sh 31 [some (.ref c), some (.int v1), some (.int v2), some (.int v3), some (.int v4), some (.int v5), none, none] [.int (hp.1 (c + 1) (ix (2 + v1))), .int v5] hp (some (.int res.2)) res.1
  refine ⟨hS.1, ⟨hS.2.1, g5⟩, ?_⟩
  refine Fx.icmp_ge (31) 62 34 (by decide +kernel) (fun b6 => ?_) (fun b6 => ?_)
  · replace hf := ifp b6 hf
    replace hf := mpd hf
    obtain ⟨t, hf, rfl⟩ := hf
    refine Fx.run [(.iload_n 2, 1, 2, 0, .null), (.iconst (-1), 1, 0, 0, .int (-1))] 64 (by decide +kernel) ?_
    show Fx q_Mo_one 7 sh 64 [some (.ref c), some (.int v1), some (.int v2), some (.int v3), some (.int v4), some (.int v5), none, none] [.int (-1), .int v2] hp (some (.int res.2)) res.1
    refine Fx.icmp_ne (6) 70 67 (by decide +kernel) (fun b7 => ?_) (fun b7 => ?_)
    · replace hf := ifn b7 hf
      refine Fx.run [(.iload_n 2, 1, 2, 0, .null), (.iconst 0, 1, 0, 0, .int 0), (.iload 4, 2, 4, 0, .null), (.iconst 1, 1, 0, 0, .int 1), (.isub, 1, 0, 0, .null)] 76 (by decide +kernel) ?_
      show Fx q_Mo_one 7 sh 76 [some (.ref c), some (.int v1), some (.int v2), some (.int v3), some (.int v4), some (.int v5), none, none] [.int (v4 - 1), .int 0, .int v2] hp (some (.int res.2)) res.1
      replace hf := bnd hf
      obtain ⟨r8, hr8, hf⟩ := hf
      refine Fx.callS (rr := (some (.int r8))) (hp1 := hp) [.int v2, .int 0, .int (v4 - 1)] [] lk_9_48 (by decide +kernel) (t_Mo_isIn sh hp v2 0 (v4 - 1) r8 hr8) ⟨Nat.le_of_ble_eq_true rfl, Nat.le_of_ble_eq_true rfl⟩ rfl (Nat.le_of_ble_eq_true rfl) ?_
      show Fx q_Mo_one 7 sh 79 [some (.ref c), some (.int v1), some (.int v2), some (.int v3), some (.int v4), some (.int v5), none, none] [.int r8] hp (some (.int res.2)) res.1
      refine Fx.if_ne (6) 85 82 (by decide +kernel) (fun b9 => ?_) (fun b9 => ?_)
      · replace hf := ifn b9 hf
        refine Fx.run [(.aload_n 0, 1, 0, 0, .null), (.iload_n 1, 1, 1, 0, .null), (.iload_n 2, 1, 2, 0, .null)] 88 (by decide +kernel) ?_
        show Fx q_Mo_one 7 sh 88 [some (.ref c), some (.int v1), some (.int v2), some (.int v3), some (.int v4), some (.int v5), none, none] [.int v2, .int v1, .ref c] hp (some (.int res.2)) res.1
        replace hf := bnd hf
        obtain ⟨r10, hr10, hf⟩ := hf
        refine Fx.callV (rr := (some (.int r10))) (hp1 := hp) [.int v1, .int v2] [] lk_9_234 (by decide +kernel) (t_Mo_ones sh c (hS) hp v1 v2 r10 hr10) ⟨Nat.le_of_ble_eq_true rfl, Nat.le_of_ble_eq_true rfl⟩ (hS).1 (by decide) rfl (Nat.le_of_ble_eq_true rfl) ?_
        show Fx q_Mo_one 7 sh 91 [some (.ref c), some (.int v1), some (.int v2), some (.int v3), some (.int v4), some (.int v5), none, none] [.int r10] hp (some (.int res.2)) res.1
        refine Fx.run [(.istore 5, 2, 5, 0, .null), (.iconst 0, 1, 0, 0, .int 0), (.istore 6, 2, 6, 0, .null), (.iconst 0, 1, 0, 0, .int 0), (.istore 7, 2, 7, 0, .null)] 99 (by decide +kernel) ?_
        show Fx q_Mo_one 7 sh 99 [some (.ref c), some (.int v1), some (.int v2), some (.int v3), some (.int v4), some (.int r10), some (.int 0), some (.int 0)] [] hp (some (.int res.2)) res.1
        have hl := t_Mo_one_l99 sh c hS hp v1 v3 r10 res (0, 0) _ hf hk
        have hl : Fx q_Mo_one 7 sh 99 [some (.ref c), some (.int v1), none, some (.int v3), none, some (.int r10), some (.int 0), some (.int 0)] [] hp (some (.int res.2)) res.1 := hl
        exact Fx.le hl (And.intro rfl (And.intro rfl (And.intro rfl (And.intro rfl (And.intro rfl (And.intro rfl trivial))))))
      · replace hf := ifp b9 hf
        refine Fx.run [(.ldc 79, 2, 0, 0, .int (-10000000))] 84 (by decide +kernel) ?_
        show Fx q_Mo_one 7 sh 84 [some (.ref c), some (.int v1), some (.int v2), some (.int v3), some (.int v4), some (.int v5), none, none] [.int (-10000000)] hp (some (.int res.2)) res.1
        obtain rfl := Option.some.inj hf
        have hk : (hp, (-10000000)) = res := hk
        subst hk
        exact Fx.iret (by decide +kernel) rfl
    · replace hf := ifp b7 hf
      refine Fx.run [(.iload 4, 2, 4, 0, .null)] 69 (by decide +kernel) ?_
      show Fx q_Mo_one 7 sh 69 [some (.ref c), some (.int v1), some (.int v2), some (.int v3), some (.int v4), some (.int v5), none, none] [.int v4] hp (some (.int res.2)) res.1
      obtain rfl := Option.some.inj hf
      have hk : (hp, v4) = res := hk
      subst hk
      exact Fx.iret (by decide +kernel) rfl
  · replace hf := ifn b6 hf
    replace hf := gd hf
    obtain ⟨g26, hf⟩ := hf
    refine Fx.run [(.iload 4, 2, 4, 0, .null), (.aload_n 0, 1, 0, 0, .null), (.getfield 25, 3, 9, 7, .ref 6), (.iload 5, 2, 5, 0, .null), (.iaload, 1, 40, 0, .null), (.iload 5, 2, 5, 0, .null)] 45 (by decide +kernel) ?_
    show isK sh c 9 ∧ (isA sh (c + 6) 10 40 ∧ inb v5 40) ∧ Fx q_Mo_one 7 sh 45 [some (.ref c), some (.int v1), some (.int v2), some (.int v3), some (.int v4), some (.int v5), none, none] [.int v5, .int (hp.1 (c + 6) (ix v5)), .int v4] hp (some (.int res.2)) res.1
    refine ⟨hS.1, ⟨hS.2.2.2.2.2.2.1, g26⟩, ?_⟩
    refine Fx.icmp_ne (7) 52 48 (by decide +kernel) (fun b27 => ?_) (fun b27 => ?_)
    · replace hf := ifn b27 hf
      refine Fx.run [(.iconst 0, 1, 0, 0, .int 0), (.iadd, 1, 0, 0, .null), (.istore 4, 2, 4, 0, .null), (.iinc 5 1, 3, 5, 0, .int 1)] 59 (by decide +kernel) ?_
      show Fx q_Mo_one 7 sh 59 [some (.ref c), some (.int v1), some (.int v2), some (.int v3), some (.int (v4 + 0)), some (.int (v5 + 1)), none, none] [] hp (some (.int res.2)) res.1
      refine Fx.goto (-38) 21 (by decide +kernel) ?_
      obtain rfl := Option.some.inj hf
      have hk : Fx q_Mo_one 7 sh 21 [some (.ref c), some (.int v1), some (.int v2), some (.int v3), some (.int (v4 + 0)), some (.int (v5 + 1)), none, none] [] hp (some (.int res.2)) res.1 := hk
      exact Fx.le hk (And.intro rfl (And.intro rfl (And.intro rfl (And.intro rfl (And.intro rfl (And.intro rfl trivial))))))
    · replace hf := ifp b27 hf
      refine Fx.run [(.iconst 1, 1, 0, 0, .int 1)] 49 (by decide +kernel) ?_
      show Fx q_Mo_one 7 sh 49 [some (.ref c), some (.int v1), some (.int v2), some (.int v3), some (.int v4), some (.int v5), none, none] [.int 1, .int v4] hp (some (.int res.2)) res.1
      refine Fx.goto (4) 53 (by decide +kernel) ?_
      refine Fx.run [(.iadd, 1, 0, 0, .null), (.istore 4, 2, 4, 0, .null), (.iinc 5 1, 3, 5, 0, .int 1)] 59 (by decide +kernel) ?_
      show Fx q_Mo_one 7 sh 59 [some (.ref c), some (.int v1), some (.int v2), some (.int v3), some (.int (v4 + 1)), some (.int (v5 + 1)), none, none] [] hp (some (.int res.2)) res.1
      refine Fx.goto (-38) 21 (by decide +kernel) ?_
      obtain rfl := Option.some.inj hf
      have hk : Fx q_Mo_one 7 sh 21 [some (.ref c), some (.int v1), some (.int v2), some (.int v3), some (.int (v4 + 1)), some (.int (v5 + 1)), none, none] [] hp (some (.int res.2)) res.1 := hk
      exact Fx.le hk (And.intro rfl (And.intro rfl (And.intro rfl (And.intro rfl (And.intro rfl (And.intro rfl trivial))))))
set_option maxHeartbeats 4000000 in
set_option maxRecDepth 20000 in
theorem t_Mo_one (sh : Shp) (c : Nat) (hS : S_Mo sh c) (hp : HP) (v1 : Int32) (v2 : Int32) (v3 : Int32) (res : (HP × Int32)) (hf : f_Mo_one c hp v1 v2 v3 = some res) : Ex 7 q_Mo_one sh [.ref c, .int v1, .int v2, .int v3] hp (some (.int res.2)) res.1 := by
  refine Ex.of [some (.ref c), some (.int v1), some (.int v2), some (.int v3), none, none, none, none] rfl (Nat.le_of_ble_eq_true rfl) (by decide +kernel) rfl ?_
  obtain ⟨t, hk⟩ : ∃ t, t = res := ⟨res, rfl⟩
  rw [← hk] at hf
  unfold f_Mo_one at hf
  refine Fx.run [(.iload_n 1, 1, 1, 0, .null)] 1 (by decide +kernel) ?_
  show Fx q_Mo_one 7 sh 1 [some (.ref c), some (.int v1), some (.int v2), some (.int v3), none, none, none, none] [.int v1] hp (some (.int res.2)) res.1
  replace hf := bnd hf
  obtain ⟨r1, hr1, hf⟩ := hf
  refine Fx.callS (rr := (some (.int r1))) (hp1 := hp) [.int v1] [] lk_9_52 (by decide +kernel) (t_Mo_isSide sh hp v1 r1 hr1) ⟨Nat.le_of_ble_eq_true rfl, Nat.le_of_ble_eq_true rfl⟩ rfl (Nat.le_of_ble_eq_true rfl) ?_
  show Fx q_Mo_one 7 sh 4 [some (.ref c), some (.int v1), some (.int v2), some (.int v3), none, none, none, none] [.int r1] hp (some (.int res.2)) res.1
  refine Fx.if_ne (6) 10 7 (by decide +kernel) (fun b2 => ?_) (fun b2 => ?_)
  · replace hf := ifn b2 hf
    refine Fx.run [(.aload_n 0, 1, 0, 0, .null), (.iload_n 1, 1, 1, 0, .null)] 12 (by decide +kernel) ?_
    show Fx q_Mo_one 7 sh 12 [some (.ref c), some (.int v1), some (.int v2), some (.int v3), none, none, none, none] [.int v1, .ref c] hp (some (.int res.2)) res.1
    replace hf := bnd hf
    obtain ⟨h4, hr3, hf⟩ := hf
    refine Fx.callV (rr := none) (hp1 := h4) [.int v1] [] lk_9_231 (by decide +kernel) (t_Mo_makesOne sh c (hS) hp v1 h4 hr3) ⟨Nat.le_of_ble_eq_true rfl, Nat.le_of_ble_eq_true rfl⟩ (hS).1 (by decide) rfl (Nat.le_of_ble_eq_true rfl) ?_
    show Fx q_Mo_one 7 sh 15 [some (.ref c), some (.int v1), some (.int v2), some (.int v3), none, none, none, none] [] h4 (some (.int res.2)) res.1
    refine Fx.run [(.iconst 0, 1, 0, 0, .int 0), (.istore 4, 2, 4, 0, .null), (.iconst 0, 1, 0, 0, .int 0), (.istore 5, 2, 5, 0, .null)] 21 (by decide +kernel) ?_
    show Fx q_Mo_one 7 sh 21 [some (.ref c), some (.int v1), some (.int v2), some (.int v3), some (.int 0), some (.int 0), none, none] [] h4 (some (.int res.2)) res.1
    have hl := t_Mo_one_l21 sh c hS h4 v1 v2 v3 res (0, 0) _ hf hk
    have hl : Fx q_Mo_one 7 sh 21 [some (.ref c), some (.int v1), some (.int v2), some (.int v3), some (.int 0), some (.int 0), none, none] [] h4 (some (.int res.2)) res.1 := hl
    exact Fx.le hl (And.intro rfl (And.intro rfl (And.intro rfl (And.intro rfl (And.intro rfl (And.intro rfl trivial))))))
  · replace hf := ifp b2 hf
    refine Fx.run [(.ldc 79, 2, 0, 0, .int (-10000000))] 9 (by decide +kernel) ?_
    show Fx q_Mo_one 7 sh 9 [some (.ref c), some (.int v1), some (.int v2), some (.int v3), none, none, none, none] [.int (-10000000)] hp (some (.int res.2)) res.1
    obtain rfl := Option.some.inj hf
    have hk : (hp, (-10000000)) = res := hk
    subst hk
    exact Fx.iret (by decide +kernel) rfl
abbrev P_Mo_cuts_2 (sh : Shp) (c : Nat) (hp : HP) (v1 : Int32) (res : HP) : (Int32) → Prop := fun s => Fx q_Mo_cuts 1 sh 2 [some (.ref c), some (.int v1), some (.int s), none] [] hp none res
abbrev P_Mo_cuts_50 (sh : Shp) (c : Nat) (v1 : Int32) (v2 : Int32) (res : HP) : (HP × Int32) → Prop := fun s => Fx q_Mo_cuts 1 sh 50 [some (.ref c), some (.int v1), some (.int v2), some (.int s.2)] [] s.1 none res
set_option maxHeartbeats 4000000 in
set_option maxRecDepth 20000 in
theorem t_Mo_cuts_l50 (sh : Shp) (c : Nat) (hS : S_Mo sh c) (hp : HP) (v1 : Int32) (v2 : Int32) (res : HP) : ∀ (s : (HP × Int32)) (t : HP), f_Mo_cuts_l50 c hp v1 v2 s = some t → (fun v => v = res) t → P_Mo_cuts_50 sh c v1 v2 res s := by
  refine loop_ind (P_Mo_cuts_50 sh c v1 v2 res) (fun v => v = res) ?_
  intro s t hf hk
  obtain ⟨hp, v3⟩ := s
  replace hf : f_Mo_cuts_b50 c hp v1 v2 v3 = some t := hf
  show Fx q_Mo_cuts 1 sh 50 [some (.ref c), some (.int v1), some (.int v2), some (.int v3)] [] hp none res
  unfold f_Mo_cuts_b50 at hf
  refine Fx.run [(.iload_n 3, 1, 3, 0, .null), (.iload_n 2, 1, 2, 0, .null)] 52 (by decide +kernel) ?_
  show Fx q_Mo_cuts 1 sh 52 [some (.ref c), some (.int v1), some (.int v2), some (.int v3)] [.int v2, .int v3] hp none res
  refine Fx.icmp_le (23) 75 55 (by decide +kernel) (fun b3 => ?_) (fun b3 => ?_)
  · replace hf := ifp b3 hf
    replace hf := mpd hf
    obtain ⟨t, hf, rfl⟩ := hf
    replace hf := gd hf
    obtain ⟨g4, hf⟩ := hf
    refine Fx.run [(.aload_n 0, 1, 0, 0, .null), (.getfield 28, 3, 9, 8, .ref 7), (.iload_n 2, 1, 2, 0, .null), (.iload_n 1, 1, 1, 0, .null), (.iastore, 1, 200, 0, .null), (.aload_n 0, 1, 0, 0, .null), (.dup, 1, 0, 0, .null), (.getfield 240, 3, 9, 9, .null), (.iconst 1, 1, 0, 0, .int 1), (.iadd, 1, 0, 0, .null), (.putfield 240, 3, 9, 9, .null)] 92 (by decide +kernel) ?_
    show isK sh c 9 ∧ (isA sh (c + 7) 10 200 ∧ inb v2 200) ∧ isK sh c 9 ∧ isK sh c 9 ∧ Fx q_Mo_cuts 1 sh 92 [some (.ref c), some (.int v1), some (.int v2), some (.int v3)] [] (upI (upI hp (c + 7) (ix v2) v1) c 9 (((upI hp (c + 7) (ix v2) v1).1 c 9) + 1)) none res
    refine ⟨hS.1, ⟨hS.2.2.2.2.2.2.2.1, g4⟩, hS.1, hS.1, ?_⟩
    obtain rfl := Option.some.inj hf
    have hk : (upI (upI hp (c + 7) (ix v2) v1) c 9 (((upI hp (c + 7) (ix v2) v1).1 c 9) + 1)) = res := hk
    subst hk
    exact Fx.vret (by decide +kernel) rfl
  · replace hf := ifn b3 hf
    replace hf := gd hf
    obtain ⟨g5, hf⟩ := hf
    replace hf := gd hf
    obtain ⟨g6, hf⟩ := hf
    refine Fx.run [(.aload_n 0, 1, 0, 0, .null), (.getfield 28, 3, 9, 8, .ref 7), (.iload_n 3, 1, 3, 0, .null), (.aload_n 0, 1, 0, 0, .null), (.getfield 28, 3, 9, 8, .ref 7), (.iload_n 3, 1, 3, 0, .null), (.iconst 1, 1, 0, 0, .int 1), (.isub, 1, 0, 0, .null), (.iaload, 1, 200, 0, .null), (.iastore, 1, 200, 0, .null), (.iinc 3 (-1), 3, 3, 0, .int (-1))] 72 (by decide +kernel) ?_
    show isK sh c 9 ∧ isK sh c 9 ∧ (isA sh (c + 7) 10 200 ∧ inb (v3 - 1) 200) ∧ (isA sh (c + 7) 10 200 ∧ inb v3 200) ∧ Fx q_Mo_cuts 1 sh 72 [some (.ref c), some (.int v1), some (.int v2), some (.int (v3 + (-1)))] [] (upI hp (c + 7) (ix v3) (hp.1 (c + 7) (ix (v3 - 1)))) none res
    refine ⟨hS.1, hS.1, ⟨hS.2.2.2.2.2.2.2.1, g5⟩, ⟨hS.2.2.2.2.2.2.2.1, g6⟩, ?_⟩
    refine Fx.goto (-22) 50 (by decide +kernel) ?_
    obtain rfl := Option.some.inj hf
    have hk : Fx q_Mo_cuts 1 sh 50 [some (.ref c), some (.int v1), some (.int v2), some (.int (v3 + (-1)))] [] (upI hp (c + 7) (ix v3) (hp.1 (c + 7) (ix (v3 - 1)))) none res := hk
    exact Fx.le hk (And.intro rfl (And.intro rfl (And.intro rfl (And.intro rfl trivial))))
set_option maxHeartbeats 4000000 in
set_option maxRecDepth 20000 in
theorem t_Mo_cuts_j26 (sh : Shp) (c : Nat) (hS : S_Mo sh c) (hp : HP) (v1 : Int32) (v2 : Int32)  (res : HP) (t : HP) (hf : f_Mo_cuts_j26 c hp v1 v2  = some t) (hk : (fun v => v = res) t) : Fx q_Mo_cuts 1 sh 26 [some (.ref c), some (.int v1), some (.int v2), none] [] hp none res := by
  unfold f_Mo_cuts_j26 at hf
  refine Fx.run [(.iload_n 2, 1, 2, 0, .null), (.aload_n 0, 1, 0, 0, .null), (.getfield 240, 3, 9, 9, .null)] 31 (by decide +kernel) ?_
  show isK sh c 9 ∧ Fx q_Mo_cuts 1 sh 31 [some (.ref c), some (.int v1), some (.int v2), none] [.int (hp.1 c 9), .int v2] hp none res
  refine ⟨hS.1, ?_⟩
  refine Fx.icmp_ge (14) 45 34 (by decide +kernel) (fun b2 => ?_) (fun b2 => ?_)
  · replace hf := ifp b2 hf
    refine Fx.run [(.aload_n 0, 1, 0, 0, .null), (.getfield 240, 3, 9, 9, .null), (.istore_n 3, 1, 3, 0, .null)] 50 (by decide +kernel) ?_
    show isK sh c 9 ∧ Fx q_Mo_cuts 1 sh 50 [some (.ref c), some (.int v1), some (.int v2), some (.int (hp.1 c 9))] [] hp none res
    refine ⟨hS.1, ?_⟩
    have hl := t_Mo_cuts_l50 sh c hS hp v1 v2 res (hp, (hp.1 c 9)) _ hf hk
    have hl : Fx q_Mo_cuts 1 sh 50 [some (.ref c), some (.int v1), some (.int v2), some (.int (hp.1 c 9))] [] hp none res := hl
    exact Fx.le hl (And.intro rfl (And.intro rfl (And.intro rfl (And.intro rfl trivial))))
  · replace hf := ifn b2 hf
    replace hf := gd hf
    obtain ⟨g7, hf⟩ := hf
    refine Fx.run [(.aload_n 0, 1, 0, 0, .null), (.getfield 28, 3, 9, 8, .ref 7), (.iload_n 2, 1, 2, 0, .null), (.iaload, 1, 200, 0, .null), (.iload_n 1, 1, 1, 0, .null)] 41 (by decide +kernel) ?_
    show isK sh c 9 ∧ (isA sh (c + 7) 10 200 ∧ inb v2 200) ∧ Fx q_Mo_cuts 1 sh 41 [some (.ref c), some (.int v1), some (.int v2), none] [.int v1, .int (hp.1 (c + 7) (ix v2))] hp none res
    refine ⟨hS.1, ⟨hS.2.2.2.2.2.2.2.1, g7⟩, ?_⟩
    refine Fx.icmp_ne (4) 45 44 (by decide +kernel) (fun b8 => ?_) (fun b8 => ?_)
    · replace hf := ifn b8 hf
      refine Fx.run [(.aload_n 0, 1, 0, 0, .null), (.getfield 240, 3, 9, 9, .null), (.istore_n 3, 1, 3, 0, .null)] 50 (by decide +kernel) ?_
      show isK sh c 9 ∧ Fx q_Mo_cuts 1 sh 50 [some (.ref c), some (.int v1), some (.int v2), some (.int (hp.1 c 9))] [] hp none res
      refine ⟨hS.1, ?_⟩
      have hl := t_Mo_cuts_l50 sh c hS hp v1 v2 res (hp, (hp.1 c 9)) _ hf hk
      have hl : Fx q_Mo_cuts 1 sh 50 [some (.ref c), some (.int v1), some (.int v2), some (.int (hp.1 c 9))] [] hp none res := hl
      exact Fx.le hl (And.intro rfl (And.intro rfl (And.intro rfl (And.intro rfl trivial))))
    · replace hf := ifp b8 hf
      obtain rfl := Option.some.inj hf
      have hk : hp = res := hk
      subst hk
      exact Fx.vret (by decide +kernel) rfl
set_option maxHeartbeats 4000000 in
set_option maxRecDepth 20000 in
theorem t_Mo_cuts_l2 (sh : Shp) (c : Nat) (hS : S_Mo sh c) (hp : HP) (v1 : Int32) (res : HP) : ∀ (s : (Int32)) (t : HP), f_Mo_cuts_l2 c hp v1 s = some t → (fun v => v = res) t → P_Mo_cuts_2 sh c hp v1 res s := by
  refine loop_ind (P_Mo_cuts_2 sh c hp v1 res) (fun v => v = res) ?_
  intro s t hf hk
  revert hf hk; revert s; intro v2 hf hk
  replace hf : f_Mo_cuts_b2 c hp v1 v2 = some t := hf
  show Fx q_Mo_cuts 1 sh 2 [some (.ref c), some (.int v1), some (.int v2), none] [] hp none res
  unfold f_Mo_cuts_b2 at hf
  refine Fx.run [(.iload_n 2, 1, 2, 0, .null), (.aload_n 0, 1, 0, 0, .null), (.getfield 240, 3, 9, 9, .null)] 7 (by decide +kernel) ?_
  show isK sh c 9 ∧ Fx q_Mo_cuts 1 sh 7 [some (.ref c), some (.int v1), some (.int v2), none] [.int (hp.1 c 9), .int v2] hp none res
  refine ⟨hS.1, ?_⟩
  refine Fx.icmp_ge (19) 26 10 (by decide +kernel) (fun b1 => ?_) (fun b1 => ?_)
  · replace hf := ifp b1 hf
    replace hf := mpd hf
    obtain ⟨t, hf, rfl⟩ := hf
    have hl := t_Mo_cuts_j26 sh c hS hp v1 v2  res _ hf hk
    exact Fx.le hl (And.intro rfl (And.intro rfl (And.intro rfl trivial)))
  · replace hf := ifn b1 hf
    replace hf := gd hf
    obtain ⟨g9, hf⟩ := hf
    refine Fx.run [(.aload_n 0, 1, 0, 0, .null), (.getfield 28, 3, 9, 8, .ref 7), (.iload_n 2, 1, 2, 0, .null), (.iaload, 1, 200, 0, .null), (.iload_n 1, 1, 1, 0, .null)] 17 (by decide +kernel) ?_
    show isK sh c 9 ∧ (isA sh (c + 7) 10 200 ∧ inb v2 200) ∧ Fx q_Mo_cuts 1 sh 17 [some (.ref c), some (.int v1), some (.int v2), none] [.int v1, .int (hp.1 (c + 7) (ix v2))] hp none res
    refine ⟨hS.1, ⟨hS.2.2.2.2.2.2.2.1, g9⟩, ?_⟩
    refine Fx.icmp_ge (9) 26 20 (by decide +kernel) (fun b10 => ?_) (fun b10 => ?_)
    · replace hf := ifp b10 hf
      replace hf := mpd hf
      obtain ⟨t, hf, rfl⟩ := hf
      have hl := t_Mo_cuts_j26 sh c hS hp v1 v2  res _ hf hk
      exact Fx.le hl (And.intro rfl (And.intro rfl (And.intro rfl trivial)))
    · replace hf := ifn b10 hf
      refine Fx.run [(.iinc 2 1, 3, 2, 0, .int 1)] 23 (by decide +kernel) ?_
      show Fx q_Mo_cuts 1 sh 23 [some (.ref c), some (.int v1), some (.int (v2 + 1)), none] [] hp none res
      refine Fx.goto (-21) 2 (by decide +kernel) ?_
      obtain rfl := Option.some.inj hf
      have hk : Fx q_Mo_cuts 1 sh 2 [some (.ref c), some (.int v1), some (.int (v2 + 1)), none] [] hp none res := hk
      exact Fx.le hk (And.intro rfl (And.intro rfl (And.intro rfl trivial)))
set_option maxHeartbeats 4000000 in
set_option maxRecDepth 20000 in
theorem t_Mo_cuts (sh : Shp) (c : Nat) (hS : S_Mo sh c) (hp : HP) (v1 : Int32) (res : HP) (hf : f_Mo_cuts c hp v1 = some res) : Ex 1 q_Mo_cuts sh [.ref c, .int v1] hp none res := by
  refine Ex.of [some (.ref c), some (.int v1), none, none] rfl (Nat.le_of_ble_eq_true rfl) (by decide +kernel) rfl ?_
  obtain ⟨t, hk⟩ : ∃ t, t = res := ⟨res, rfl⟩
  rw [← hk] at hf
  unfold f_Mo_cuts at hf
  refine Fx.run [(.iconst 0, 1, 0, 0, .int 0), (.istore_n 2, 1, 2, 0, .null)] 2 (by decide +kernel) ?_
  show Fx q_Mo_cuts 1 sh 2 [some (.ref c), some (.int v1), some (.int 0), none] [] hp none res
  have hl := t_Mo_cuts_l2 sh c hS hp v1 res 0 _ hf hk
  have hl : Fx q_Mo_cuts 1 sh 2 [some (.ref c), some (.int v1), some (.int 0), none] [] hp none res := hl
  exact Fx.le hl (And.intro rfl (And.intro rfl (And.intro rfl trivial)))
abbrev P_Mo_valuesAt_5 (sh : Shp) (c : Nat) (hp : HP) (v1 : Int32) (v2 : Int32) (res : Int32) : (Int32 × Int32) → Prop := fun s => Fx q_Mo_valuesAt 5 sh 5 [some (.ref c), some (.int v1), some (.int v2), some (.int s.1), some (.int s.2), none] [] hp (some (.int res)) hp
abbrev P_Mo_valuesAt_14 (sh : Shp) (c : Nat) (hp : HP) (v1 : Int32) (v2 : Int32) (v4 : Int32) (res : Int32) : (Int32 × Int32) → Prop := fun s => Fx q_Mo_valuesAt 5 sh 14 [some (.ref c), some (.int v1), some (.int v2), some (.int s.1), some (.int v4), some (.int s.2)] [] hp (some (.int res)) hp
set_option maxHeartbeats 4000000 in
set_option maxRecDepth 20000 in
theorem t_Mo_valuesAt_l14 (sh : Shp) (c : Nat) (hS : S_Mo sh c) (hp : HP) (v1 : Int32) (v2 : Int32) (v4 : Int32) (res : Int32) : ∀ (s : (Int32 × Int32)) (t : ((Int32 × Int32) ⊕ Int32)), f_Mo_valuesAt_l14 c hp v1 v2 v4 s = some t → (Kel (P_Mo_valuesAt_5 sh c hp v1 v2 res) (fun v => v = res)) t → P_Mo_valuesAt_14 sh c hp v1 v2 v4 res s := by
  refine loop_ind (P_Mo_valuesAt_14 sh c hp v1 v2 v4 res) (Kel (P_Mo_valuesAt_5 sh c hp v1 v2 res) (fun v => v = res)) ?_
  intro s t hf hk
  obtain ⟨v3, v5⟩ := s
  replace hf : f_Mo_valuesAt_b14 c hp v1 v2 v4 v3 v5 = some t := hf
  show Fx q_Mo_valuesAt 5 sh 14 [some (.ref c), some (.int v1), some (.int v2), some (.int v3), some (.int v4), some (.int v5)] [] hp (some (.int res)) hp
  unfold f_Mo_valuesAt_b14 at hf
  replace hf := gd hf
  obtain ⟨g2, hf⟩ := hf
  refine Fx.run [(.iload 5, 2, 5, 0, .null), (.aload_n 0, 1, 0, 0, .null), (.getfield 9, 3, 9, 0, .ref 1), (.iconst 2, 1, 0, 0, .int 2), (.iload 4, 2, 4, 0, .null), (.iadd, 1, 0, 0, .null), (.iaload, 1, 4100, 0, .null)] 25 (by decide +kernel) ?_
  show isK sh c 9 ∧ (isA sh (c + 1) 10 4100 ∧ inb (2 + v4) 4100) ∧ Fx q_Mo_valuesAt 5 sh 25 [some (.ref c), some (.int v1), some (.int v2), some (.int v3), some (.int v4), some (.int v5)] [.int (hp.1 (c + 1) (ix (2 + v4))), .int v5] hp (some (.int res)) hp
  refine ⟨hS.1, ⟨hS.2.1, g2⟩, ?_⟩
  refine Fx.icmp_ge (50) 75 28 (by decide +kernel) (fun b3 => ?_) (fun b3 => ?_)
  · replace hf := ifp b3 hf
    replace hf := mpd hf
    obtain ⟨t, hf, rfl⟩ := hf
    refine Fx.run [(.iinc 4 1, 3, 4, 0, .int 1)] 78 (by decide +kernel) ?_
    show Fx q_Mo_valuesAt 5 sh 78 [some (.ref c), some (.int v1), some (.int v2), some (.int v3), some (.int (v4 + 1)), some (.int v5)] [] hp (some (.int res)) hp
    refine Fx.goto (-73) 5 (by decide +kernel) ?_
    obtain rfl := Option.some.inj hf
    have hk : Fx q_Mo_valuesAt 5 sh 5 [some (.ref c), some (.int v1), some (.int v2), some (.int v3), some (.int (v4 + 1)), none] [] hp (some (.int res)) hp := hk
    exact Fx.le hk (And.intro rfl (And.intro rfl (And.intro rfl (And.intro rfl (And.intro rfl trivial)))))
  · replace hf := ifn b3 hf
    refine Fx.run [(.iload_n 3, 1, 3, 0, .null), (.aload_n 0, 1, 0, 0, .null), (.iload 4, 2, 4, 0, .null), (.iload 5, 2, 5, 0, .null), (.iconst 1, 1, 0, 0, .int 1)] 35 (by decide +kernel) ?_
    show Fx q_Mo_valuesAt 5 sh 35 [some (.ref c), some (.int v1), some (.int v2), some (.int v3), some (.int v4), some (.int v5)] [.int 1, .int v5, .int v4, .ref c, .int v3] hp (some (.int res)) hp
    replace hf := bnd hf
    obtain ⟨r4, hr4, hf⟩ := hf
    refine Fx.callV (rr := (some (.int r4))) (hp1 := hp) [.int v4, .int v5, .int 1] [.int v3] lk_9_44 (by decide +kernel) (t_Mo_of sh c (hS) hp v4 v5 1 r4 hr4) ⟨Nat.le_of_ble_eq_true rfl, Nat.le_of_ble_eq_true rfl⟩ (hS).1 (by decide) rfl (Nat.le_of_ble_eq_true rfl) ?_
    show Fx q_Mo_valuesAt 5 sh 38 [some (.ref c), some (.int v1), some (.int v2), some (.int v3), some (.int v4), some (.int v5)] [.int r4, .int v3] hp (some (.int res)) hp
    refine Fx.run [(.iload_n 1, 1, 1, 0, .null)] 39 (by decide +kernel) ?_
    show Fx q_Mo_valuesAt 5 sh 39 [some (.ref c), some (.int v1), some (.int v2), some (.int v3), some (.int v4), some (.int v5)] [.int v1, .int r4, .int v3] hp (some (.int res)) hp
    refine Fx.icmp_ne (27) 66 42 (by decide +kernel) (fun b5 => ?_) (fun b5 => ?_)
    · replace hf := ifn b5 hf
      refine Fx.run [(.iconst 0, 1, 0, 0, .int 0), (.iadd, 1, 0, 0, .null), (.istore_n 3, 1, 3, 0, .null), (.iinc 5 1, 3, 5, 0, .int 1)] 72 (by decide +kernel) ?_
      show Fx q_Mo_valuesAt 5 sh 72 [some (.ref c), some (.int v1), some (.int v2), some (.int (v3 + 0)), some (.int v4), some (.int (v5 + 1))] [] hp (some (.int res)) hp
      refine Fx.goto (-58) 14 (by decide +kernel) ?_
      obtain rfl := Option.some.inj hf
      have hk : Fx q_Mo_valuesAt 5 sh 14 [some (.ref c), some (.int v1), some (.int v2), some (.int (v3 + 0)), some (.int v4), some (.int (v5 + 1))] [] hp (some (.int res)) hp := hk
      exact Fx.le hk (And.intro rfl (And.intro rfl (And.intro rfl (And.intro rfl (And.intro rfl (And.intro rfl trivial))))))
    · replace hf := ifp b5 hf
      refine Fx.run [(.aload_n 0, 1, 0, 0, .null), (.iload 4, 2, 4, 0, .null), (.iload 5, 2, 5, 0, .null), (.iload_n 2, 1, 2, 0, .null)] 48 (by decide +kernel) ?_
      show Fx q_Mo_valuesAt 5 sh 48 [some (.ref c), some (.int v1), some (.int v2), some (.int v3), some (.int v4), some (.int v5)] [.int v2, .int v5, .int v4, .ref c, .int v3] hp (some (.int res)) hp
      replace hf := bnd hf
      obtain ⟨r6, hr6, hf⟩ := hf
      refine Fx.callV (rr := (some (.int r6))) (hp1 := hp) [.int v4, .int v5, .int v2] [.int v3] lk_9_216 (by decide +kernel) (t_Mo_isLive sh c (hS) hp v4 v5 v2 r6 hr6) ⟨Nat.le_of_ble_eq_true rfl, Nat.le_of_ble_eq_true rfl⟩ (hS).1 (by decide) rfl (Nat.le_of_ble_eq_true rfl) ?_
      show Fx q_Mo_valuesAt 5 sh 51 [some (.ref c), some (.int v1), some (.int v2), some (.int v3), some (.int v4), some (.int v5)] [.int r6, .int v3] hp (some (.int res)) hp
      refine Fx.if_eq (15) 66 54 (by decide +kernel) (fun b7 => ?_) (fun b7 => ?_)
      · replace hf := ifp b7 hf
        refine Fx.run [(.iconst 0, 1, 0, 0, .int 0), (.iadd, 1, 0, 0, .null), (.istore_n 3, 1, 3, 0, .null), (.iinc 5 1, 3, 5, 0, .int 1)] 72 (by decide +kernel) ?_
        show Fx q_Mo_valuesAt 5 sh 72 [some (.ref c), some (.int v1), some (.int v2), some (.int (v3 + 0)), some (.int v4), some (.int (v5 + 1))] [] hp (some (.int res)) hp
        refine Fx.goto (-58) 14 (by decide +kernel) ?_
        obtain rfl := Option.some.inj hf
        have hk : Fx q_Mo_valuesAt 5 sh 14 [some (.ref c), some (.int v1), some (.int v2), some (.int (v3 + 0)), some (.int v4), some (.int (v5 + 1))] [] hp (some (.int res)) hp := hk
        exact Fx.le hk (And.intro rfl (And.intro rfl (And.intro rfl (And.intro rfl (And.intro rfl (And.intro rfl trivial))))))
      · replace hf := ifn b7 hf
        refine Fx.run [(.aload_n 0, 1, 0, 0, .null), (.iload 4, 2, 4, 0, .null), (.iload 5, 2, 5, 0, .null), (.iconst 4, 1, 0, 0, .int 4)] 60 (by decide +kernel) ?_
        show Fx q_Mo_valuesAt 5 sh 60 [some (.ref c), some (.int v1), some (.int v2), some (.int v3), some (.int v4), some (.int v5)] [.int 4, .int v5, .int v4, .ref c, .int v3] hp (some (.int res)) hp
        replace hf := bnd hf
        obtain ⟨r8, hr8, hf⟩ := hf
        refine Fx.callV (rr := (some (.int r8))) (hp1 := hp) [.int v4, .int v5, .int 4] [.int v3] lk_9_44 (by decide +kernel) (t_Mo_of sh c (hS) hp v4 v5 4 r8 hr8) ⟨Nat.le_of_ble_eq_true rfl, Nat.le_of_ble_eq_true rfl⟩ (hS).1 (by decide) rfl (Nat.le_of_ble_eq_true rfl) ?_
        show Fx q_Mo_valuesAt 5 sh 63 [some (.ref c), some (.int v1), some (.int v2), some (.int v3), some (.int v4), some (.int v5)] [.int r8, .int v3] hp (some (.int res)) hp
        refine Fx.goto (4) 67 (by decide +kernel) ?_
        refine Fx.run [(.iadd, 1, 0, 0, .null), (.istore_n 3, 1, 3, 0, .null), (.iinc 5 1, 3, 5, 0, .int 1)] 72 (by decide +kernel) ?_
        show Fx q_Mo_valuesAt 5 sh 72 [some (.ref c), some (.int v1), some (.int v2), some (.int (v3 + r8)), some (.int v4), some (.int (v5 + 1))] [] hp (some (.int res)) hp
        refine Fx.goto (-58) 14 (by decide +kernel) ?_
        obtain rfl := Option.some.inj hf
        have hk : Fx q_Mo_valuesAt 5 sh 14 [some (.ref c), some (.int v1), some (.int v2), some (.int (v3 + r8)), some (.int v4), some (.int (v5 + 1))] [] hp (some (.int res)) hp := hk
        exact Fx.le hk (And.intro rfl (And.intro rfl (And.intro rfl (And.intro rfl (And.intro rfl (And.intro rfl trivial))))))
set_option maxHeartbeats 4000000 in
set_option maxRecDepth 20000 in
theorem t_Mo_valuesAt_l5 (sh : Shp) (c : Nat) (hS : S_Mo sh c) (hp : HP) (v1 : Int32) (v2 : Int32) (res : Int32) : ∀ (s : (Int32 × Int32)) (t : Int32), f_Mo_valuesAt_l5 c hp v1 v2 s = some t → (fun v => v = res) t → P_Mo_valuesAt_5 sh c hp v1 v2 res s := by
  refine loop_ind (P_Mo_valuesAt_5 sh c hp v1 v2 res) (fun v => v = res) ?_
  intro s t hf hk
  obtain ⟨v3, v4⟩ := s
  replace hf : f_Mo_valuesAt_b5 c hp v1 v2 v3 v4 = some t := hf
  show Fx q_Mo_valuesAt 5 sh 5 [some (.ref c), some (.int v1), some (.int v2), some (.int v3), some (.int v4), none] [] hp (some (.int res)) hp
  unfold f_Mo_valuesAt_b5 at hf
  refine Fx.run [(.iload 4, 2, 4, 0, .null), (.iconst 2, 1, 0, 0, .int 2)] 8 (by decide +kernel) ?_
  show Fx q_Mo_valuesAt 5 sh 8 [some (.ref c), some (.int v1), some (.int v2), some (.int v3), some (.int v4), none] [.int 2, .int v4] hp (some (.int res)) hp
  refine Fx.icmp_ge (73) 81 11 (by decide +kernel) (fun b1 => ?_) (fun b1 => ?_)
  · replace hf := ifp b1 hf
    replace hf := mpd hf
    obtain ⟨t, hf, rfl⟩ := hf
    refine Fx.run [(.iload_n 3, 1, 3, 0, .null)] 82 (by decide +kernel) ?_
    show Fx q_Mo_valuesAt 5 sh 82 [some (.ref c), some (.int v1), some (.int v2), some (.int v3), some (.int v4), none] [.int v3] hp (some (.int res)) hp
    obtain rfl := Option.some.inj hf
    have hk : v3 = res := hk
    subst hk
    exact Fx.iret (by decide +kernel) rfl
  · replace hf := ifn b1 hf
    refine Fx.run [(.iconst 0, 1, 0, 0, .int 0), (.istore 5, 2, 5, 0, .null)] 14 (by decide +kernel) ?_
    show Fx q_Mo_valuesAt 5 sh 14 [some (.ref c), some (.int v1), some (.int v2), some (.int v3), some (.int v4), some (.int 0)] [] hp (some (.int res)) hp
    have hl := t_Mo_valuesAt_l14 sh c hS hp v1 v2 v4 res (v3, 0) _ hf hk
    have hl : Fx q_Mo_valuesAt 5 sh 14 [some (.ref c), some (.int v1), some (.int v2), some (.int v3), some (.int v4), some (.int 0)] [] hp (some (.int res)) hp := hl
    exact Fx.le hl (And.intro rfl (And.intro rfl (And.intro rfl (And.intro rfl (And.intro rfl (And.intro rfl trivial))))))
set_option maxHeartbeats 4000000 in
set_option maxRecDepth 20000 in
theorem t_Mo_valuesAt (sh : Shp) (c : Nat) (hS : S_Mo sh c) (hp : HP) (v1 : Int32) (v2 : Int32) (res : Int32) (hf : f_Mo_valuesAt c hp v1 v2 = some res) : Ex 5 q_Mo_valuesAt sh [.ref c, .int v1, .int v2] hp (some (.int res)) hp := by
  refine Ex.of [some (.ref c), some (.int v1), some (.int v2), none, none, none] rfl (Nat.le_of_ble_eq_true rfl) (by decide +kernel) rfl ?_
  obtain ⟨t, hk⟩ : ∃ t, t = res := ⟨res, rfl⟩
  rw [← hk] at hf
  unfold f_Mo_valuesAt at hf
  refine Fx.run [(.iconst 0, 1, 0, 0, .int 0), (.istore_n 3, 1, 3, 0, .null), (.iconst 0, 1, 0, 0, .int 0), (.istore 4, 2, 4, 0, .null)] 5 (by decide +kernel) ?_
  show Fx q_Mo_valuesAt 5 sh 5 [some (.ref c), some (.int v1), some (.int v2), some (.int 0), some (.int 0), none] [] hp (some (.int res)) hp
  have hl := t_Mo_valuesAt_l5 sh c hS hp v1 v2 res (0, 0) _ hf hk
  have hl : Fx q_Mo_valuesAt 5 sh 5 [some (.ref c), some (.int v1), some (.int v2), some (.int 0), some (.int 0), none] [] hp (some (.int res)) hp := hl
  exact Fx.le hl (And.intro rfl (And.intro rfl (And.intro rfl (And.intro rfl (And.intro rfl trivial)))))
abbrev P_Mo_steps_18 (sh : Shp) (c : Nat) (v1 : Int32) (v2 : Int32) (v3 : Int32) (res : (HP × Int32)) : (HP × Int32) → Prop := fun s => Fx q_Mo_steps 6 sh 18 [some (.ref c), some (.int v1), some (.int v2), some (.int v3), some (.int s.2), none, none] [] s.1 (some (.int res.2)) res.1
abbrev P_Mo_steps_99 (sh : Shp) (c : Nat) (hp : HP) (v1 : Int32) (v2 : Int32) (v3 : Int32) (res : (HP × Int32)) : (Int32 × Int32) → Prop := fun s => Fx q_Mo_steps 6 sh 99 [some (.ref c), some (.int v1), some (.int v2), some (.int v3), some (.int s.1), some (.int s.2), none] [] hp (some (.int res.2)) res.1
set_option maxHeartbeats 4000000 in
set_option maxRecDepth 20000 in
theorem t_Mo_steps_l99 (sh : Shp) (c : Nat) (hS : S_Mo sh c) (hp : HP) (v1 : Int32) (v2 : Int32) (v3 : Int32) (res : (HP × Int32)) : ∀ (s : (Int32 × Int32)) (t : (HP × Int32)), f_Mo_steps_l99 c hp v1 v2 v3 s = some t → (fun v => v = res) t → P_Mo_steps_99 sh c hp v1 v2 v3 res s := by
  refine loop_ind (P_Mo_steps_99 sh c hp v1 v2 v3 res) (fun v => v = res) ?_
  intro s t hf hk
  obtain ⟨v4, v5⟩ := s
  replace hf : f_Mo_steps_b99 c hp v1 v2 v3 v4 v5 = some t := hf
  show Fx q_Mo_steps 6 sh 99 [some (.ref c), some (.int v1), some (.int v2), some (.int v3), some (.int v4), some (.int v5), none] [] hp (some (.int res.2)) res.1
  unfold f_Mo_steps_b99 at hf
  refine Fx.run [(.iload 5, 2, 5, 0, .null), (.iconst 1, 1, 0, 0, .int 1), (.iadd, 1, 0, 0, .null), (.aload_n 0, 1, 0, 0, .null), (.getfield 240, 3, 9, 9, .null)] 107 (by decide +kernel) ?_
  show isK sh c 9 ∧ Fx q_Mo_steps 6 sh 107 [some (.ref c), some (.int v1), some (.int v2), some (.int v3), some (.int v4), some (.int v5), none] [.int (hp.1 c 9), .int (v5 + 1)] hp (some (.int res.2)) res.1
  refine ⟨hS.1, ?_⟩
  refine Fx.icmp_ge (125) 232 110 (by decide +kernel) (fun b4 => ?_) (fun b4 => ?_)
  · replace hf := ifp b4 hf
    replace hf := mpd hf
    obtain ⟨t, hf, rfl⟩ := hf
    refine Fx.run [(.iload_n 2, 1, 2, 0, .null), (.iconst (-1), 1, 0, 0, .int (-1))] 234 (by decide +kernel) ?_
    show Fx q_Mo_steps 6 sh 234 [some (.ref c), some (.int v1), some (.int v2), some (.int v3), some (.int v4), some (.int v5), none] [.int (-1), .int v2] hp (some (.int res.2)) res.1
    refine Fx.icmp_ne (8) 242 237 (by decide +kernel) (fun b5 => ?_) (fun b5 => ?_)
    · replace hf := ifn b5 hf
      refine Fx.run [(.ldc 79, 2, 0, 0, .int (-10000000))] 244 (by decide +kernel) ?_
      show Fx q_Mo_steps 6 sh 244 [some (.ref c), some (.int v1), some (.int v2), some (.int v3), some (.int v4), some (.int v5), none] [.int (-10000000)] hp (some (.int res.2)) res.1
      obtain rfl := Option.some.inj hf
      have hk : (hp, (-10000000)) = res := hk
      subst hk
      exact Fx.iret (by decide +kernel) rfl
    · replace hf := ifp b5 hf
      refine Fx.run [(.iload 4, 2, 4, 0, .null)] 239 (by decide +kernel) ?_
      show Fx q_Mo_steps 6 sh 239 [some (.ref c), some (.int v1), some (.int v2), some (.int v3), some (.int v4), some (.int v5), none] [.int v4] hp (some (.int res.2)) res.1
      refine Fx.goto (5) 244 (by decide +kernel) ?_
      obtain rfl := Option.some.inj hf
      have hk : (hp, v4) = res := hk
      subst hk
      exact Fx.iret (by decide +kernel) rfl
  · replace hf := ifn b4 hf
    replace hf := gd hf
    obtain ⟨g6, hf⟩ := hf
    refine Fx.run [(.aload_n 0, 1, 0, 0, .null), (.iconst 0, 1, 0, 0, .int 0), (.iload_n 1, 1, 1, 0, .null), (.aload_n 0, 1, 0, 0, .null), (.getfield 28, 3, 9, 8, .ref 7), (.iload 5, 2, 5, 0, .null), (.iaload, 1, 200, 0, .null)] 120 (by decide +kernel) ?_
    show isK sh c 9 ∧ (isA sh (c + 7) 10 200 ∧ inb v5 200) ∧ Fx q_Mo_steps 6 sh 120 [some (.ref c), some (.int v1), some (.int v2), some (.int v3), some (.int v4), some (.int v5), none] [.int (hp.1 (c + 7) (ix v5)), .int v1, .int 0, .ref c] hp (some (.int res.2)) res.1
    refine ⟨hS.1, ⟨hS.2.2.2.2.2.2.2.1, g6⟩, ?_⟩
    replace hf := bnd hf
    obtain ⟨r7, hr7, hf⟩ := hf
    refine Fx.callV (rr := (some (.int r7))) (hp1 := hp) [.int 0, .int v1, .int (hp.1 (c + 7) (ix v5))] [] lk_9_219 (by decide +kernel) (t_Mo_liveAt sh c (hS) hp 0 v1 (hp.1 (c + 7) (ix v5)) r7 hr7) ⟨Nat.le_of_ble_eq_true rfl, Nat.le_of_ble_eq_true rfl⟩ (hS).1 (by decide) rfl (Nat.le_of_ble_eq_true rfl) ?_
    show Fx q_Mo_steps 6 sh 123 [some (.ref c), some (.int v1), some (.int v2), some (.int v3), some (.int v4), some (.int v5), none] [.int r7] hp (some (.int res.2)) res.1
    replace hf := gd hf
    obtain ⟨g8, hf⟩ := hf
    refine Fx.run [(.aload_n 0, 1, 0, 0, .null), (.iconst 1, 1, 0, 0, .int 1), (.iload_n 1, 1, 1, 0, .null), (.aload_n 0, 1, 0, 0, .null), (.getfield 28, 3, 9, 8, .ref 7), (.iload 5, 2, 5, 0, .null), (.iaload, 1, 200, 0, .null)] 133 (by decide +kernel) ?_
    show isK sh c 9 ∧ (isA sh (c + 7) 10 200 ∧ inb v5 200) ∧ Fx q_Mo_steps 6 sh 133 [some (.ref c), some (.int v1), some (.int v2), some (.int v3), some (.int v4), some (.int v5), none] [.int (hp.1 (c + 7) (ix v5)), .int v1, .int 1, .ref c, .int r7] hp (some (.int res.2)) res.1
    refine ⟨hS.1, ⟨hS.2.2.2.2.2.2.2.1, g8⟩, ?_⟩
    replace hf := bnd hf
    obtain ⟨r9, hr9, hf⟩ := hf
    refine Fx.callV (rr := (some (.int r9))) (hp1 := hp) [.int 1, .int v1, .int (hp.1 (c + 7) (ix v5))] [.int r7] lk_9_219 (by decide +kernel) (t_Mo_liveAt sh c (hS) hp 1 v1 (hp.1 (c + 7) (ix v5)) r9 hr9) ⟨Nat.le_of_ble_eq_true rfl, Nat.le_of_ble_eq_true rfl⟩ (hS).1 (by decide) rfl (Nat.le_of_ble_eq_true rfl) ?_
    show Fx q_Mo_steps 6 sh 136 [some (.ref c), some (.int v1), some (.int v2), some (.int v3), some (.int v4), some (.int v5), none] [.int r9, .int r7] hp (some (.int res.2)) res.1
    refine Fx.run [(.iadd, 1, 0, 0, .null), (.istore 6, 2, 6, 0, .null), (.iload 6, 2, 6, 0, .null)] 141 (by decide +kernel) ?_
    show Fx q_Mo_steps 6 sh 141 [some (.ref c), some (.int v1), some (.int v2), some (.int v3), some (.int v4), some (.int v5), some (.int (r7 + r9))] [.int (r7 + r9)] hp (some (.int res.2)) res.1
    refine Fx.if_ne (6) 147 144 (by decide +kernel) (fun b10 => ?_) (fun b10 => ?_)
    · replace hf := ifn b10 hf
      refine Fx.run [(.iload 4, 2, 4, 0, .null), (.iload_n 2, 1, 2, 0, .null)] 150 (by decide +kernel) ?_
      show Fx q_Mo_steps 6 sh 150 [some (.ref c), some (.int v1), some (.int v2), some (.int v3), some (.int v4), some (.int v5), some (.int (r7 + r9))] [.int v2, .int v4] hp (some (.int res.2)) res.1
      refine Fx.icmp_ne (73) 223 153 (by decide +kernel) (fun b11 => ?_) (fun b11 => ?_)
      · replace hf := ifn b11 hf
        refine Fx.run [(.iinc 4 1, 3, 4, 0, .int 1), (.iinc 5 1, 3, 5, 0, .int 1)] 229 (by decide +kernel) ?_
        show Fx q_Mo_steps 6 sh 229 [some (.ref c), some (.int v1), some (.int v2), some (.int v3), some (.int (v4 + 1)), some (.int (v5 + 1)), some (.int (r7 + r9))] [] hp (some (.int res.2)) res.1
        refine Fx.goto (-130) 99 (by decide +kernel) ?_
        obtain rfl := Option.some.inj hf
        have hk : Fx q_Mo_steps 6 sh 99 [some (.ref c), some (.int v1), some (.int v2), some (.int v3), some (.int (v4 + 1)), some (.int (v5 + 1)), none] [] hp (some (.int res.2)) res.1 := hk
        exact Fx.le hk (And.intro rfl (And.intro rfl (And.intro rfl (And.intro rfl (And.intro rfl (And.intro rfl trivial))))))
      · replace hf := ifp b11 hf
        replace hf := mpd hf
        obtain ⟨t, hf, rfl⟩ := hf
        refine Fx.run [(.iload_n 3, 1, 3, 0, .null)] 154 (by decide +kernel) ?_
        show Fx q_Mo_steps 6 sh 154 [some (.ref c), some (.int v1), some (.int v2), some (.int v3), some (.int v4), some (.int v5), some (.int (r7 + r9))] [.int v3] hp (some (.int res.2)) res.1
        refine Fx.if_ne (16) 170 157 (by decide +kernel) (fun b12 => ?_) (fun b12 => ?_)
        · replace hf := ifn b12 hf
          refine Fx.run [(.iload_n 3, 1, 3, 0, .null), (.iconst 1, 1, 0, 0, .int 1)] 172 (by decide +kernel) ?_
          show Fx q_Mo_steps 6 sh 172 [some (.ref c), some (.int v1), some (.int v2), some (.int v3), some (.int v4), some (.int v5), some (.int (r7 + r9))] [.int 1, .int v3] hp (some (.int res.2)) res.1
          refine Fx.icmp_ne (18) 190 175 (by decide +kernel) (fun b13 => ?_) (fun b13 => ?_)
          · replace hf := ifn b13 hf
            refine Fx.run [(.iload_n 3, 1, 3, 0, .null), (.iconst 2, 1, 0, 0, .int 2)] 192 (by decide +kernel) ?_
            show Fx q_Mo_steps 6 sh 192 [some (.ref c), some (.int v1), some (.int v2), some (.int v3), some (.int v4), some (.int v5), some (.int (r7 + r9))] [.int 2, .int v3] hp (some (.int res.2)) res.1
            refine Fx.icmp_ne (8) 200 195 (by decide +kernel) (fun b14 => ?_) (fun b14 => ?_)
            · replace hf := ifn b14 hf
              refine Fx.run [(.iload_n 3, 1, 3, 0, .null), (.iconst 3, 1, 0, 0, .int 3)] 202 (by decide +kernel) ?_
              show Fx q_Mo_steps 6 sh 202 [some (.ref c), some (.int v1), some (.int v2), some (.int v3), some (.int v4), some (.int v5), some (.int (r7 + r9))] [.int 3, .int v3] hp (some (.int res.2)) res.1
              refine Fx.icmp_ne (18) 220 205 (by decide +kernel) (fun b15 => ?_) (fun b15 => ?_)
              · replace hf := ifn b15 hf
                refine Fx.run [(.ldc 79, 2, 0, 0, .int (-10000000))] 222 (by decide +kernel) ?_
                show Fx q_Mo_steps 6 sh 222 [some (.ref c), some (.int v1), some (.int v2), some (.int v3), some (.int v4), some (.int v5), some (.int (r7 + r9))] [.int (-10000000)] hp (some (.int res.2)) res.1
                obtain rfl := Option.some.inj hf
                have hk : (hp, (-10000000)) = res := hk
                subst hk
                exact Fx.iret (by decide +kernel) rfl
              · replace hf := ifp b15 hf
                replace hf := gd hf
                obtain ⟨g16, hf⟩ := hf
                refine Fx.run [(.aload_n 0, 1, 0, 0, .null), (.iload_n 1, 1, 1, 0, .null), (.aload_n 0, 1, 0, 0, .null), (.getfield 28, 3, 9, 8, .ref 7), (.iload 5, 2, 5, 0, .null), (.iaload, 1, 200, 0, .null)] 214 (by decide +kernel) ?_
                show isK sh c 9 ∧ (isA sh (c + 7) 10 200 ∧ inb v5 200) ∧ Fx q_Mo_steps 6 sh 214 [some (.ref c), some (.int v1), some (.int v2), some (.int v3), some (.int v4), some (.int v5), some (.int (r7 + r9))] [.int (hp.1 (c + 7) (ix v5)), .int v1, .ref c] hp (some (.int res.2)) res.1
                refine ⟨hS.1, ⟨hS.2.2.2.2.2.2.2.1, g16⟩, ?_⟩
                replace hf := bnd hf
                obtain ⟨r17, hr17, hf⟩ := hf
                refine Fx.callV (rr := (some (.int r17))) (hp1 := hp) [.int v1, .int (hp.1 (c + 7) (ix v5))] [] lk_9_245 (by decide +kernel) (t_Mo_valuesAt sh c (hS) hp v1 (hp.1 (c + 7) (ix v5)) r17 hr17) ⟨Nat.le_of_ble_eq_true rfl, Nat.le_of_ble_eq_true rfl⟩ (hS).1 (by decide) rfl (Nat.le_of_ble_eq_true rfl) ?_
                show Fx q_Mo_steps 6 sh 217 [some (.ref c), some (.int v1), some (.int v2), some (.int v3), some (.int v4), some (.int v5), some (.int (r7 + r9))] [.int r17] hp (some (.int res.2)) res.1
                refine Fx.goto (5) 222 (by decide +kernel) ?_
                obtain rfl := Option.some.inj hf
                have hk : (hp, r17) = res := hk
                subst hk
                exact Fx.iret (by decide +kernel) rfl
            · replace hf := ifp b14 hf
              refine Fx.run [(.iload 6, 2, 6, 0, .null)] 197 (by decide +kernel) ?_
              show Fx q_Mo_steps 6 sh 197 [some (.ref c), some (.int v1), some (.int v2), some (.int v3), some (.int v4), some (.int v5), some (.int (r7 + r9))] [.int (r7 + r9)] hp (some (.int res.2)) res.1
              refine Fx.goto (25) 222 (by decide +kernel) ?_
              obtain rfl := Option.some.inj hf
              have hk : (hp, (r7 + r9)) = res := hk
              subst hk
              exact Fx.iret (by decide +kernel) rfl
          · replace hf := ifp b13 hf
            replace hf := gd hf
            obtain ⟨g18, hf⟩ := hf
            refine Fx.run [(.aload_n 0, 1, 0, 0, .null), (.getfield 28, 3, 9, 8, .ref 7), (.iload 5, 2, 5, 0, .null), (.iconst 1, 1, 0, 0, .int 1), (.iadd, 1, 0, 0, .null), (.iaload, 1, 200, 0, .null)] 184 (by decide +kernel) ?_
            show isK sh c 9 ∧ (isA sh (c + 7) 10 200 ∧ inb (v5 + 1) 200) ∧ Fx q_Mo_steps 6 sh 184 [some (.ref c), some (.int v1), some (.int v2), some (.int v3), some (.int v4), some (.int v5), some (.int (r7 + r9))] [.int (hp.1 (c + 7) (ix (v5 + 1)))] hp (some (.int res.2)) res.1
            refine ⟨hS.1, ⟨hS.2.2.2.2.2.2.2.1, g18⟩, ?_⟩
            replace hf := bnd hf
            obtain ⟨r19, hr19, hf⟩ := hf
            refine Fx.callS (rr := (some (.int r19))) (hp1 := hp) [.int (hp.1 (c + 7) (ix (v5 + 1)))] [] lk_9_164 (by decide +kernel) (t_Mo_time sh hp (hp.1 (c + 7) (ix (v5 + 1))) r19 hr19) ⟨Nat.le_of_ble_eq_true rfl, Nat.le_of_ble_eq_true rfl⟩ rfl (Nat.le_of_ble_eq_true rfl) ?_
            show Fx q_Mo_steps 6 sh 187 [some (.ref c), some (.int v1), some (.int v2), some (.int v3), some (.int v4), some (.int v5), some (.int (r7 + r9))] [.int r19] hp (some (.int res.2)) res.1
            refine Fx.goto (35) 222 (by decide +kernel) ?_
            obtain rfl := Option.some.inj hf
            have hk : (hp, r19) = res := hk
            subst hk
            exact Fx.iret (by decide +kernel) rfl
        · replace hf := ifp b12 hf
          replace hf := gd hf
          obtain ⟨g20, hf⟩ := hf
          refine Fx.run [(.aload_n 0, 1, 0, 0, .null), (.getfield 28, 3, 9, 8, .ref 7), (.iload 5, 2, 5, 0, .null), (.iaload, 1, 200, 0, .null)] 164 (by decide +kernel) ?_
          show isK sh c 9 ∧ (isA sh (c + 7) 10 200 ∧ inb v5 200) ∧ Fx q_Mo_steps 6 sh 164 [some (.ref c), some (.int v1), some (.int v2), some (.int v3), some (.int v4), some (.int v5), some (.int (r7 + r9))] [.int (hp.1 (c + 7) (ix v5))] hp (some (.int res.2)) res.1
          refine ⟨hS.1, ⟨hS.2.2.2.2.2.2.2.1, g20⟩, ?_⟩
          replace hf := bnd hf
          obtain ⟨r21, hr21, hf⟩ := hf
          refine Fx.callS (rr := (some (.int r21))) (hp1 := hp) [.int (hp.1 (c + 7) (ix v5))] [] lk_9_164 (by decide +kernel) (t_Mo_time sh hp (hp.1 (c + 7) (ix v5)) r21 hr21) ⟨Nat.le_of_ble_eq_true rfl, Nat.le_of_ble_eq_true rfl⟩ rfl (Nat.le_of_ble_eq_true rfl) ?_
          show Fx q_Mo_steps 6 sh 167 [some (.ref c), some (.int v1), some (.int v2), some (.int v3), some (.int v4), some (.int v5), some (.int (r7 + r9))] [.int r21] hp (some (.int res.2)) res.1
          refine Fx.goto (55) 222 (by decide +kernel) ?_
          obtain rfl := Option.some.inj hf
          have hk : (hp, r21) = res := hk
          subst hk
          exact Fx.iret (by decide +kernel) rfl
    · replace hf := ifp b10 hf
      refine Fx.goto (82) 226 (by decide +kernel) ?_
      refine Fx.run [(.iinc 5 1, 3, 5, 0, .int 1)] 229 (by decide +kernel) ?_
      show Fx q_Mo_steps 6 sh 229 [some (.ref c), some (.int v1), some (.int v2), some (.int v3), some (.int v4), some (.int (v5 + 1)), some (.int (r7 + r9))] [] hp (some (.int res.2)) res.1
      refine Fx.goto (-130) 99 (by decide +kernel) ?_
      obtain rfl := Option.some.inj hf
      have hk : Fx q_Mo_steps 6 sh 99 [some (.ref c), some (.int v1), some (.int v2), some (.int v3), some (.int v4), some (.int (v5 + 1)), none] [] hp (some (.int res.2)) res.1 := hk
      exact Fx.le hk (And.intro rfl (And.intro rfl (And.intro rfl (And.intro rfl (And.intro rfl (And.intro rfl trivial))))))
abbrev P_Mo_steps_27 (sh : Shp) (c : Nat) (v1 : Int32) (v2 : Int32) (v3 : Int32) (v4 : Int32) (res : (HP × Int32)) : (HP × Int32) → Prop := fun s => Fx q_Mo_steps 6 sh 27 [some (.ref c), some (.int v1), some (.int v2), some (.int v3), some (.int v4), some (.int s.2), none] [] s.1 (some (.int res.2)) res.1
set_option maxHeartbeats 4000000 in
set_option maxRecDepth 20000 in
theorem t_Mo_steps_l27 (sh : Shp) (c : Nat) (hS : S_Mo sh c) (hp : HP) (v1 : Int32) (v2 : Int32) (v3 : Int32) (v4 : Int32) (res : (HP × Int32)) : ∀ (s : (HP × Int32)) (t : ((HP × Int32) ⊕ (HP × Int32))), f_Mo_steps_l27 c hp v1 v2 v3 v4 s = some t → (Kel (P_Mo_steps_18 sh c v1 v2 v3 res) (fun v => v = res)) t → P_Mo_steps_27 sh c v1 v2 v3 v4 res s := by
  refine loop_ind (P_Mo_steps_27 sh c v1 v2 v3 v4 res) (Kel (P_Mo_steps_18 sh c v1 v2 v3 res) (fun v => v = res)) ?_
  intro s t hf hk
  obtain ⟨hp, v5⟩ := s
  replace hf : f_Mo_steps_b27 c hp v1 v2 v3 v4 v5 = some t := hf
  show Fx q_Mo_steps 6 sh 27 [some (.ref c), some (.int v1), some (.int v2), some (.int v3), some (.int v4), some (.int v5), none] [] hp (some (.int res.2)) res.1
  unfold f_Mo_steps_b27 at hf
  replace hf := gd hf
  obtain ⟨g22, hf⟩ := hf
  refine Fx.run [(.iload 5, 2, 5, 0, .null), (.aload_n 0, 1, 0, 0, .null), (.getfield 9, 3, 9, 0, .ref 1), (.iconst 2, 1, 0, 0, .int 2), (.iload 4, 2, 4, 0, .null), (.iadd, 1, 0, 0, .null), (.iaload, 1, 4100, 0, .null)] 38 (by decide +kernel) ?_
  show isK sh c 9 ∧ (isA sh (c + 1) 10 4100 ∧ inb (2 + v4) 4100) ∧ Fx q_Mo_steps 6 sh 38 [some (.ref c), some (.int v1), some (.int v2), some (.int v3), some (.int v4), some (.int v5), none] [.int (hp.1 (c + 1) (ix (2 + v4))), .int v5] hp (some (.int res.2)) res.1
  refine ⟨hS.1, ⟨hS.2.1, g22⟩, ?_⟩
  refine Fx.icmp_ge (49) 87 41 (by decide +kernel) (fun b23 => ?_) (fun b23 => ?_)
  · replace hf := ifp b23 hf
    replace hf := mpd hf
    obtain ⟨t, hf, rfl⟩ := hf
    refine Fx.run [(.iinc 4 1, 3, 4, 0, .int 1)] 90 (by decide +kernel) ?_
    show Fx q_Mo_steps 6 sh 90 [some (.ref c), some (.int v1), some (.int v2), some (.int v3), some (.int (v4 + 1)), some (.int v5), none] [] hp (some (.int res.2)) res.1
    refine Fx.goto (-72) 18 (by decide +kernel) ?_
    obtain rfl := Option.some.inj hf
    have hk : Fx q_Mo_steps 6 sh 18 [some (.ref c), some (.int v1), some (.int v2), some (.int v3), some (.int (v4 + 1)), none, none] [] hp (some (.int res.2)) res.1 := hk
    exact Fx.le hk (And.intro rfl (And.intro rfl (And.intro rfl (And.intro rfl (And.intro rfl trivial)))))
  · replace hf := ifn b23 hf
    refine Fx.run [(.aload_n 0, 1, 0, 0, .null), (.iload 4, 2, 4, 0, .null), (.iload 5, 2, 5, 0, .null), (.iconst 1, 1, 0, 0, .int 1)] 47 (by decide +kernel) ?_
    show Fx q_Mo_steps 6 sh 47 [some (.ref c), some (.int v1), some (.int v2), some (.int v3), some (.int v4), some (.int v5), none] [.int 1, .int v5, .int v4, .ref c] hp (some (.int res.2)) res.1
    replace hf := bnd hf
    obtain ⟨r24, hr24, hf⟩ := hf
    refine Fx.callV (rr := (some (.int r24))) (hp1 := hp) [.int v4, .int v5, .int 1] [] lk_9_44 (by decide +kernel) (t_Mo_of sh c (hS) hp v4 v5 1 r24 hr24) ⟨Nat.le_of_ble_eq_true rfl, Nat.le_of_ble_eq_true rfl⟩ (hS).1 (by decide) rfl (Nat.le_of_ble_eq_true rfl) ?_
    show Fx q_Mo_steps 6 sh 50 [some (.ref c), some (.int v1), some (.int v2), some (.int v3), some (.int v4), some (.int v5), none] [.int r24] hp (some (.int res.2)) res.1
    refine Fx.run [(.iload_n 1, 1, 1, 0, .null)] 51 (by decide +kernel) ?_
    show Fx q_Mo_steps 6 sh 51 [some (.ref c), some (.int v1), some (.int v2), some (.int v3), some (.int v4), some (.int v5), none] [.int v1, .int r24] hp (some (.int res.2)) res.1
    refine Fx.icmp_eq (6) 57 54 (by decide +kernel) (fun b25 => ?_) (fun b25 => ?_)
    · replace hf := ifp b25 hf
      refine Fx.run [(.aload_n 0, 1, 0, 0, .null), (.aload_n 0, 1, 0, 0, .null), (.iload 4, 2, 4, 0, .null), (.iload 5, 2, 5, 0, .null)] 63 (by decide +kernel) ?_
      show Fx q_Mo_steps 6 sh 63 [some (.ref c), some (.int v1), some (.int v2), some (.int v3), some (.int v4), some (.int v5), none] [.int v5, .int v4, .ref c, .ref c] hp (some (.int res.2)) res.1
      replace hf := bnd hf
      obtain ⟨r26, hr26, hf⟩ := hf
      refine Fx.callV (rr := (some (.int r26))) (hp1 := hp) [.int v4, .int v5] [.ref c] lk_9_56 (by decide +kernel) (t_Mo_startOf sh c (hS) hp v4 v5 r26 hr26) ⟨Nat.le_of_ble_eq_true rfl, Nat.le_of_ble_eq_true rfl⟩ (hS).1 (by decide) rfl (Nat.le_of_ble_eq_true rfl) ?_
      show Fx q_Mo_steps 6 sh 66 [some (.ref c), some (.int v1), some (.int v2), some (.int v3), some (.int v4), some (.int v5), none] [.int r26, .ref c] hp (some (.int res.2)) res.1
      replace hf := bnd hf
      obtain ⟨h28, hr27, hf⟩ := hf
      refine Fx.callV (rr := none) (hp1 := h28) [.int r26] [] lk_9_243 (by decide +kernel) (t_Mo_cuts sh c (hS) hp r26 h28 hr27) ⟨Nat.le_of_ble_eq_true rfl, Nat.le_of_ble_eq_true rfl⟩ (hS).1 (by decide) rfl (Nat.le_of_ble_eq_true rfl) ?_
      show Fx q_Mo_steps 6 sh 69 [some (.ref c), some (.int v1), some (.int v2), some (.int v3), some (.int v4), some (.int v5), none] [] h28 (some (.int res.2)) res.1
      refine Fx.run [(.aload_n 0, 1, 0, 0, .null), (.aload_n 0, 1, 0, 0, .null), (.iload 4, 2, 4, 0, .null), (.iload 5, 2, 5, 0, .null)] 75 (by decide +kernel) ?_
      show Fx q_Mo_steps 6 sh 75 [some (.ref c), some (.int v1), some (.int v2), some (.int v3), some (.int v4), some (.int v5), none] [.int v5, .int v4, .ref c, .ref c] h28 (some (.int res.2)) res.1
      replace hf := bnd hf
      obtain ⟨r29, hr29, hf⟩ := hf
      refine Fx.callV (rr := (some (.int r29))) (hp1 := h28) [.int v4, .int v5] [.ref c] lk_9_59 (by decide +kernel) (t_Mo_endOf sh c (hS) h28 v4 v5 r29 hr29) ⟨Nat.le_of_ble_eq_true rfl, Nat.le_of_ble_eq_true rfl⟩ (hS).1 (by decide) rfl (Nat.le_of_ble_eq_true rfl) ?_
      show Fx q_Mo_steps 6 sh 78 [some (.ref c), some (.int v1), some (.int v2), some (.int v3), some (.int v4), some (.int v5), none] [.int r29, .ref c] h28 (some (.int res.2)) res.1
      replace hf := bnd hf
      obtain ⟨h31, hr30, hf⟩ := hf
      refine Fx.callV (rr := none) (hp1 := h31) [.int r29] [] lk_9_243 (by decide +kernel) (t_Mo_cuts sh c (hS) h28 r29 h31 hr30) ⟨Nat.le_of_ble_eq_true rfl, Nat.le_of_ble_eq_true rfl⟩ (hS).1 (by decide) rfl (Nat.le_of_ble_eq_true rfl) ?_
      show Fx q_Mo_steps 6 sh 81 [some (.ref c), some (.int v1), some (.int v2), some (.int v3), some (.int v4), some (.int v5), none] [] h31 (some (.int res.2)) res.1
      refine Fx.run [(.iinc 5 1, 3, 5, 0, .int 1)] 84 (by decide +kernel) ?_
      show Fx q_Mo_steps 6 sh 84 [some (.ref c), some (.int v1), some (.int v2), some (.int v3), some (.int v4), some (.int (v5 + 1)), none] [] h31 (some (.int res.2)) res.1
      refine Fx.goto (-57) 27 (by decide +kernel) ?_
      obtain rfl := Option.some.inj hf
      have hk : Fx q_Mo_steps 6 sh 27 [some (.ref c), some (.int v1), some (.int v2), some (.int v3), some (.int v4), some (.int (v5 + 1)), none] [] h31 (some (.int res.2)) res.1 := hk
      exact Fx.le hk (And.intro rfl (And.intro rfl (And.intro rfl (And.intro rfl (And.intro rfl (And.intro rfl trivial))))))
    · replace hf := ifn b25 hf
      refine Fx.goto (27) 81 (by decide +kernel) ?_
      refine Fx.run [(.iinc 5 1, 3, 5, 0, .int 1)] 84 (by decide +kernel) ?_
      show Fx q_Mo_steps 6 sh 84 [some (.ref c), some (.int v1), some (.int v2), some (.int v3), some (.int v4), some (.int (v5 + 1)), none] [] hp (some (.int res.2)) res.1
      refine Fx.goto (-57) 27 (by decide +kernel) ?_
      obtain rfl := Option.some.inj hf
      have hk : Fx q_Mo_steps 6 sh 27 [some (.ref c), some (.int v1), some (.int v2), some (.int v3), some (.int v4), some (.int (v5 + 1)), none] [] hp (some (.int res.2)) res.1 := hk
      exact Fx.le hk (And.intro rfl (And.intro rfl (And.intro rfl (And.intro rfl (And.intro rfl (And.intro rfl trivial))))))
set_option maxHeartbeats 4000000 in
set_option maxRecDepth 20000 in
theorem t_Mo_steps_l18 (sh : Shp) (c : Nat) (hS : S_Mo sh c) (hp : HP) (v1 : Int32) (v2 : Int32) (v3 : Int32) (res : (HP × Int32)) : ∀ (s : (HP × Int32)) (t : (HP × Int32)), f_Mo_steps_l18 c hp v1 v2 v3 s = some t → (fun v => v = res) t → P_Mo_steps_18 sh c v1 v2 v3 res s := by
  refine loop_ind (P_Mo_steps_18 sh c v1 v2 v3 res) (fun v => v = res) ?_
  intro s t hf hk
  obtain ⟨hp, v4⟩ := s
  replace hf : f_Mo_steps_b18 c hp v1 v2 v3 v4 = some t := hf
  show Fx q_Mo_steps 6 sh 18 [some (.ref c), some (.int v1), some (.int v2), some (.int v3), some (.int v4), none, none] [] hp (some (.int res.2)) res.1
  unfold f_Mo_steps_b18 at hf
  refine Fx.run [(.iload 4, 2, 4, 0, .null), (.iconst 2, 1, 0, 0, .int 2)] 21 (by decide +kernel) ?_
  show Fx q_Mo_steps 6 sh 21 [some (.ref c), some (.int v1), some (.int v2), some (.int v3), some (.int v4), none, none] [.int 2, .int v4] hp (some (.int res.2)) res.1
  refine Fx.icmp_ge (72) 93 24 (by decide +kernel) (fun b3 => ?_) (fun b3 => ?_)
  · replace hf := ifp b3 hf
    replace hf := mpd hf
    obtain ⟨t, hf, rfl⟩ := hf
    refine Fx.run [(.iconst 0, 1, 0, 0, .int 0), (.istore 4, 2, 4, 0, .null), (.iconst 0, 1, 0, 0, .int 0), (.istore 5, 2, 5, 0, .null)] 99 (by decide +kernel) ?_
    show Fx q_Mo_steps 6 sh 99 [some (.ref c), some (.int v1), some (.int v2), some (.int v3), some (.int 0), some (.int 0), none] [] hp (some (.int res.2)) res.1
    have hl := t_Mo_steps_l99 sh c hS hp v1 v2 v3 res (0, 0) _ hf hk
    have hl : Fx q_Mo_steps 6 sh 99 [some (.ref c), some (.int v1), some (.int v2), some (.int v3), some (.int 0), some (.int 0), none] [] hp (some (.int res.2)) res.1 := hl
    exact Fx.le hl (And.intro rfl (And.intro rfl (And.intro rfl (And.intro rfl (And.intro rfl (And.intro rfl trivial))))))
  · replace hf := ifn b3 hf
    refine Fx.run [(.iconst 0, 1, 0, 0, .int 0), (.istore 5, 2, 5, 0, .null)] 27 (by decide +kernel) ?_
    show Fx q_Mo_steps 6 sh 27 [some (.ref c), some (.int v1), some (.int v2), some (.int v3), some (.int v4), some (.int 0), none] [] hp (some (.int res.2)) res.1
    have hl := t_Mo_steps_l27 sh c hS hp v1 v2 v3 v4 res (hp, 0) _ hf hk
    have hl : Fx q_Mo_steps 6 sh 27 [some (.ref c), some (.int v1), some (.int v2), some (.int v3), some (.int v4), some (.int 0), none] [] hp (some (.int res.2)) res.1 := hl
    exact Fx.le hl (And.intro rfl (And.intro rfl (And.intro rfl (And.intro rfl (And.intro rfl (And.intro rfl trivial))))))
set_option maxHeartbeats 4000000 in
set_option maxRecDepth 20000 in
theorem t_Mo_steps (sh : Shp) (c : Nat) (hS : S_Mo sh c) (hp : HP) (v1 : Int32) (v2 : Int32) (v3 : Int32) (res : (HP × Int32)) (hf : f_Mo_steps c hp v1 v2 v3 = some res) : Ex 6 q_Mo_steps sh [.ref c, .int v1, .int v2, .int v3] hp (some (.int res.2)) res.1 := by
  refine Ex.of [some (.ref c), some (.int v1), some (.int v2), some (.int v3), none, none, none] rfl (Nat.le_of_ble_eq_true rfl) (by decide +kernel) rfl ?_
  obtain ⟨t, hk⟩ : ∃ t, t = res := ⟨res, rfl⟩
  rw [← hk] at hf
  unfold f_Mo_steps at hf
  refine Fx.run [(.iload_n 1, 1, 1, 0, .null)] 1 (by decide +kernel) ?_
  show Fx q_Mo_steps 6 sh 1 [some (.ref c), some (.int v1), some (.int v2), some (.int v3), none, none, none] [.int v1] hp (some (.int res.2)) res.1
  replace hf := bnd hf
  obtain ⟨r1, hr1, hf⟩ := hf
  refine Fx.callS (rr := (some (.int r1))) (hp1 := hp) [.int v1] [] lk_9_94 (by decide +kernel) (t_Mo_isKey sh hp v1 r1 hr1) ⟨Nat.le_of_ble_eq_true rfl, Nat.le_of_ble_eq_true rfl⟩ rfl (Nat.le_of_ble_eq_true rfl) ?_
  show Fx q_Mo_steps 6 sh 4 [some (.ref c), some (.int v1), some (.int v2), some (.int v3), none, none, none] [.int r1] hp (some (.int res.2)) res.1
  refine Fx.if_ne (6) 10 7 (by decide +kernel) (fun b2 => ?_) (fun b2 => ?_)
  · replace hf := ifn b2 hf
    refine Fx.run [(.aload_n 0, 1, 0, 0, .null), (.iconst 0, 1, 0, 0, .int 0), (.putfield 240, 3, 9, 9, .null), (.iconst 0, 1, 0, 0, .int 0), (.istore 4, 2, 4, 0, .null)] 18 (by decide +kernel) ?_
    show isK sh c 9 ∧ Fx q_Mo_steps 6 sh 18 [some (.ref c), some (.int v1), some (.int v2), some (.int v3), some (.int 0), none, none] [] (upI hp c 9 0) (some (.int res.2)) res.1
    refine ⟨hS.1, ?_⟩
    have hl := t_Mo_steps_l18 sh c hS (upI hp c 9 0) v1 v2 v3 res ((upI hp c 9 0), 0) _ hf hk
    have hl : Fx q_Mo_steps 6 sh 18 [some (.ref c), some (.int v1), some (.int v2), some (.int v3), some (.int 0), none, none] [] (upI hp c 9 0) (some (.int res.2)) res.1 := hl
    exact Fx.le hl (And.intro rfl (And.intro rfl (And.intro rfl (And.intro rfl (And.intro rfl trivial)))))
  · replace hf := ifp b2 hf
    refine Fx.run [(.ldc 79, 2, 0, 0, .int (-10000000))] 9 (by decide +kernel) ?_
    show Fx q_Mo_steps 6 sh 9 [some (.ref c), some (.int v1), some (.int v2), some (.int v3), none, none, none] [.int (-10000000)] hp (some (.int res.2)) res.1
    obtain rfl := Option.some.inj hf
    have hk : (hp, (-10000000)) = res := hk
    subst hk
    exact Fx.iret (by decide +kernel) rfl
abbrev P_Mo_split_53 (sh : Shp) (c : Nat) (v1 : Int32) (v2 : Int32) (v3 : Int32) (v4 : Int32) (v5 : Int32) (v6 : Int32) (v7 : Int32) (res : (HP × Int32)) : (HP × Int32) → Prop := fun s => Fx q_Mo_split 8 sh 53 [some (.ref c), some (.int v1), some (.int v2), some (.int v3), some (.int v4), some (.int v5), some (.int v6), some (.int v7), some (.int s.2)] [] s.1 (some (.int res.2)) res.1
set_option maxHeartbeats 4000000 in
set_option maxRecDepth 20000 in
theorem t_Mo_split_j115 (sh : Shp) (c : Nat) (hS : S_Mo sh c) (hp : HP) (v1 : Int32) (v2 : Int32) (v3 : Int32) (v4 : Int32) (v5 : Int32) (v6 : Int32) (v7 : Int32) (v8 : Int32)  (res : (HP × Int32)) (t : ((HP × Int32) ⊕ (HP × Int32))) (hf : f_Mo_split_j115 c hp v1 v2 v3 v4 v5 v6 v7 v8  = some t) (hk : (Kel (P_Mo_split_53 sh c v1 v2 v3 v4 v5 v6 v7 res) (fun v => v = res)) t) : Fx q_Mo_split 8 sh 115 [some (.ref c), some (.int v1), some (.int v2), some (.int v3), some (.int v4), some (.int v5), some (.int v6), some (.int v7), some (.int v8)] [] hp (some (.int res.2)) res.1 := by
  unfold f_Mo_split_j115 at hf
  refine Fx.run [(.aload_n 0, 1, 0, 0, .null), (.iload 5, 2, 5, 0, .null), (.iload 8, 2, 8, 0, .null)] 120 (by decide +kernel) ?_
  show Fx q_Mo_split 8 sh 120 [some (.ref c), some (.int v1), some (.int v2), some (.int v3), some (.int v4), some (.int v5), some (.int v6), some (.int v7), some (.int v8)] [.int v8, .int v5, .ref c] hp (some (.int res.2)) res.1
  replace hf := bnd hf
  obtain ⟨r28, hr28, hf⟩ := hf
  refine Fx.callV (rr := (some (.int r28))) (hp1 := hp) [.int v5, .int v8] [] lk_9_59 (by decide +kernel) (t_Mo_endOf sh c (hS) hp v5 v8 r28 hr28) ⟨Nat.le_of_ble_eq_true rfl, Nat.le_of_ble_eq_true rfl⟩ (hS).1 (by decide) rfl (Nat.le_of_ble_eq_true rfl) ?_
  show Fx q_Mo_split 8 sh 123 [some (.ref c), some (.int v1), some (.int v2), some (.int v3), some (.int v4), some (.int v5), some (.int v6), some (.int v7), some (.int v8)] [.int r28] hp (some (.int res.2)) res.1
  refine Fx.run [(.iload 6, 2, 6, 0, .null), (.iconst 1, 1, 0, 0, .int 1), (.iadd, 1, 0, 0, .null), (.iload 7, 2, 7, 0, .null), (.iconst 1, 1, 0, 0, .int 1), (.isub, 1, 0, 0, .null)] 131 (by decide +kernel) ?_
  show Fx q_Mo_split 8 sh 131 [some (.ref c), some (.int v1), some (.int v2), some (.int v3), some (.int v4), some (.int v5), some (.int v6), some (.int v7), some (.int v8)] [.int (v7 - 1), .int (v6 + 1), .int r28] hp (some (.int res.2)) res.1
  replace hf := bnd hf
  obtain ⟨r29, hr29, hf⟩ := hf
  refine Fx.callS (rr := (some (.int r29))) (hp1 := hp) [.int r28, .int (v6 + 1), .int (v7 - 1)] [] lk_9_48 (by decide +kernel) (t_Mo_isIn sh hp r28 (v6 + 1) (v7 - 1) r29 hr29) ⟨Nat.le_of_ble_eq_true rfl, Nat.le_of_ble_eq_true rfl⟩ rfl (Nat.le_of_ble_eq_true rfl) ?_
  show Fx q_Mo_split 8 sh 134 [some (.ref c), some (.int v1), some (.int v2), some (.int v3), some (.int v4), some (.int v5), some (.int v6), some (.int v7), some (.int v8)] [.int r29] hp (some (.int res.2)) res.1
  refine Fx.if_eq (15) 149 137 (by decide +kernel) (fun b30 => ?_) (fun b30 => ?_)
  · replace hf := ifp b30 hf
    refine Fx.run [(.iinc 8 1, 3, 8, 0, .int 1)] 152 (by decide +kernel) ?_
    show Fx q_Mo_split 8 sh 152 [some (.ref c), some (.int v1), some (.int v2), some (.int v3), some (.int v4), some (.int v5), some (.int v6), some (.int v7), some (.int (v8 + 1))] [] hp (some (.int res.2)) res.1
    refine Fx.goto (-99) 53 (by decide +kernel) ?_
    obtain rfl := Option.some.inj hf
    have hk : Fx q_Mo_split 8 sh 53 [some (.ref c), some (.int v1), some (.int v2), some (.int v3), some (.int v4), some (.int v5), some (.int v6), some (.int v7), some (.int (v8 + 1))] [] hp (some (.int res.2)) res.1 := hk
    exact Fx.le hk (And.intro rfl (And.intro rfl (And.intro rfl (And.intro rfl (And.intro rfl (And.intro rfl (And.intro rfl (And.intro rfl (And.intro rfl trivial)))))))))
  · replace hf := ifn b30 hf
    refine Fx.run [(.aload_n 0, 1, 0, 0, .null), (.aload_n 0, 1, 0, 0, .null), (.iload 5, 2, 5, 0, .null), (.iload 8, 2, 8, 0, .null)] 143 (by decide +kernel) ?_
    show Fx q_Mo_split 8 sh 143 [some (.ref c), some (.int v1), some (.int v2), some (.int v3), some (.int v4), some (.int v5), some (.int v6), some (.int v7), some (.int v8)] [.int v8, .int v5, .ref c, .ref c] hp (some (.int res.2)) res.1
    replace hf := bnd hf
    obtain ⟨r31, hr31, hf⟩ := hf
    refine Fx.callV (rr := (some (.int r31))) (hp1 := hp) [.int v5, .int v8] [.ref c] lk_9_59 (by decide +kernel) (t_Mo_endOf sh c (hS) hp v5 v8 r31 hr31) ⟨Nat.le_of_ble_eq_true rfl, Nat.le_of_ble_eq_true rfl⟩ (hS).1 (by decide) rfl (Nat.le_of_ble_eq_true rfl) ?_
    show Fx q_Mo_split 8 sh 146 [some (.ref c), some (.int v1), some (.int v2), some (.int v3), some (.int v4), some (.int v5), some (.int v6), some (.int v7), some (.int v8)] [.int r31, .ref c] hp (some (.int res.2)) res.1
    replace hf := bnd hf
    obtain ⟨h33, hr32, hf⟩ := hf
    refine Fx.callV (rr := none) (hp1 := h33) [.int r31] [] lk_9_243 (by decide +kernel) (t_Mo_cuts sh c (hS) hp r31 h33 hr32) ⟨Nat.le_of_ble_eq_true rfl, Nat.le_of_ble_eq_true rfl⟩ (hS).1 (by decide) rfl (Nat.le_of_ble_eq_true rfl) ?_
    show Fx q_Mo_split 8 sh 149 [some (.ref c), some (.int v1), some (.int v2), some (.int v3), some (.int v4), some (.int v5), some (.int v6), some (.int v7), some (.int v8)] [] h33 (some (.int res.2)) res.1
    refine Fx.run [(.iinc 8 1, 3, 8, 0, .int 1)] 152 (by decide +kernel) ?_
    show Fx q_Mo_split 8 sh 152 [some (.ref c), some (.int v1), some (.int v2), some (.int v3), some (.int v4), some (.int v5), some (.int v6), some (.int v7), some (.int (v8 + 1))] [] h33 (some (.int res.2)) res.1
    refine Fx.goto (-99) 53 (by decide +kernel) ?_
    obtain rfl := Option.some.inj hf
    have hk : Fx q_Mo_split 8 sh 53 [some (.ref c), some (.int v1), some (.int v2), some (.int v3), some (.int v4), some (.int v5), some (.int v6), some (.int v7), some (.int (v8 + 1))] [] h33 (some (.int res.2)) res.1 := hk
    exact Fx.le hk (And.intro rfl (And.intro rfl (And.intro rfl (And.intro rfl (And.intro rfl (And.intro rfl (And.intro rfl (And.intro rfl (And.intro rfl trivial)))))))))
set_option maxHeartbeats 4000000 in
set_option maxRecDepth 20000 in
theorem t_Mo_split_l53 (sh : Shp) (c : Nat) (hS : S_Mo sh c) (hp : HP) (v1 : Int32) (v2 : Int32) (v3 : Int32) (v4 : Int32) (v5 : Int32) (v6 : Int32) (v7 : Int32) (res : (HP × Int32)) : ∀ (s : (HP × Int32)) (t : (HP × Int32)), f_Mo_split_l53 c hp v1 v2 v3 v4 v5 v6 v7 s = some t → (fun v => v = res) t → P_Mo_split_53 sh c v1 v2 v3 v4 v5 v6 v7 res s := by
  refine loop_ind (P_Mo_split_53 sh c v1 v2 v3 v4 v5 v6 v7 res) (fun v => v = res) ?_
  intro s t hf hk
  obtain ⟨hp, v8⟩ := s
  replace hf : f_Mo_split_b53 c hp v1 v2 v3 v4 v5 v6 v7 v8 = some t := hf
  show Fx q_Mo_split 8 sh 53 [some (.ref c), some (.int v1), some (.int v2), some (.int v3), some (.int v4), some (.int v5), some (.int v6), some (.int v7), some (.int v8)] [] hp (some (.int res.2)) res.1
  unfold f_Mo_split_b53 at hf
  replace hf := gd hf
  obtain ⟨g9, hf⟩ := hf
  refine Fx.run [(.iload 8, 2, 8, 0, .null), (.aload_n 0, 1, 0, 0, .null), (.getfield 9, 3, 9, 0, .ref 1), (.iconst 2, 1, 0, 0, .int 2), (.iload 5, 2, 5, 0, .null), (.iadd, 1, 0, 0, .null), (.iaload, 1, 4100, 0, .null)] 64 (by decide +kernel) ?_
  show isK sh c 9 ∧ (isA sh (c + 1) 10 4100 ∧ inb (2 + v5) 4100) ∧ Fx q_Mo_split 8 sh 64 [some (.ref c), some (.int v1), some (.int v2), some (.int v3), some (.int v4), some (.int v5), some (.int v6), some (.int v7), some (.int v8)] [.int (hp.1 (c + 1) (ix (2 + v5))), .int v8] hp (some (.int res.2)) res.1
  refine ⟨hS.1, ⟨hS.2.1, g9⟩, ?_⟩
  refine Fx.icmp_ge (91) 155 67 (by decide +kernel) (fun b10 => ?_) (fun b10 => ?_)
  · replace hf := ifp b10 hf
    replace hf := mpd hf
    obtain ⟨t, hf, rfl⟩ := hf
    refine Fx.run [(.iload_n 3, 1, 3, 0, .null), (.iconst (-1), 1, 0, 0, .int (-1))] 157 (by decide +kernel) ?_
    show Fx q_Mo_split 8 sh 157 [some (.ref c), some (.int v1), some (.int v2), some (.int v3), some (.int v4), some (.int v5), some (.int v6), some (.int v7), some (.int v8)] [.int (-1), .int v3] hp (some (.int res.2)) res.1
    refine Fx.icmp_ne (10) 167 160 (by decide +kernel) (fun b11 => ?_) (fun b11 => ?_)
    · replace hf := ifn b11 hf
      refine Fx.run [(.iload_n 3, 1, 3, 0, .null), (.iconst 0, 1, 0, 0, .int 0), (.aload_n 0, 1, 0, 0, .null), (.getfield 240, 3, 9, 9, .null), (.iconst 2, 1, 0, 0, .int 2), (.isub, 1, 0, 0, .null)] 175 (by decide +kernel) ?_
      show isK sh c 9 ∧ Fx q_Mo_split 8 sh 175 [some (.ref c), some (.int v1), some (.int v2), some (.int v3), some (.int v4), some (.int v5), some (.int v6), some (.int v7), some (.int v8)] [.int ((hp.1 c 9) - 2), .int 0, .int v3] hp (some (.int res.2)) res.1
      refine ⟨hS.1, ?_⟩
      replace hf := bnd hf
      obtain ⟨r12, hr12, hf⟩ := hf
      refine Fx.callS (rr := (some (.int r12))) (hp1 := hp) [.int v3, .int 0, .int ((hp.1 c 9) - 2)] [] lk_9_48 (by decide +kernel) (t_Mo_isIn sh hp v3 0 ((hp.1 c 9) - 2) r12 hr12) ⟨Nat.le_of_ble_eq_true rfl, Nat.le_of_ble_eq_true rfl⟩ rfl (Nat.le_of_ble_eq_true rfl) ?_
      show Fx q_Mo_split 8 sh 178 [some (.ref c), some (.int v1), some (.int v2), some (.int v3), some (.int v4), some (.int v5), some (.int v6), some (.int v7), some (.int v8)] [.int r12] hp (some (.int res.2)) res.1
      refine Fx.if_ne (6) 184 181 (by decide +kernel) (fun b13 => ?_) (fun b13 => ?_)
      · replace hf := ifn b13 hf
        refine Fx.run [(.iload 4, 2, 4, 0, .null)] 186 (by decide +kernel) ?_
        show Fx q_Mo_split 8 sh 186 [some (.ref c), some (.int v1), some (.int v2), some (.int v3), some (.int v4), some (.int v5), some (.int v6), some (.int v7), some (.int v8)] [.int v4] hp (some (.int res.2)) res.1
        refine Fx.if_ne (15) 201 189 (by decide +kernel) (fun b14 => ?_) (fun b14 => ?_)
        · replace hf := ifn b14 hf
          refine Fx.run [(.iload 4, 2, 4, 0, .null), (.iconst 1, 1, 0, 0, .int 1)] 204 (by decide +kernel) ?_
          show Fx q_Mo_split 8 sh 204 [some (.ref c), some (.int v1), some (.int v2), some (.int v3), some (.int v4), some (.int v5), some (.int v6), some (.int v7), some (.int v8)] [.int 1, .int v4] hp (some (.int res.2)) res.1
          refine Fx.icmp_ne (17) 221 207 (by decide +kernel) (fun b15 => ?_) (fun b15 => ?_)
          · replace hf := ifn b15 hf
            refine Fx.run [(.iload 4, 2, 4, 0, .null), (.iconst 2, 1, 0, 0, .int 2)] 224 (by decide +kernel) ?_
            show Fx q_Mo_split 8 sh 224 [some (.ref c), some (.int v1), some (.int v2), some (.int v3), some (.int v4), some (.int v5), some (.int v6), some (.int v7), some (.int v8)] [.int 2, .int v4] hp (some (.int res.2)) res.1
            refine Fx.icmp_ne (18) 242 227 (by decide +kernel) (fun b16 => ?_) (fun b16 => ?_)
            · replace hf := ifn b16 hf
              refine Fx.run [(.ldc 79, 2, 0, 0, .int (-10000000))] 244 (by decide +kernel) ?_
              show Fx q_Mo_split 8 sh 244 [some (.ref c), some (.int v1), some (.int v2), some (.int v3), some (.int v4), some (.int v5), some (.int v6), some (.int v7), some (.int v8)] [.int (-10000000)] hp (some (.int res.2)) res.1
              obtain rfl := Option.some.inj hf
              have hk : (hp, (-10000000)) = res := hk
              subst hk
              exact Fx.iret (by decide +kernel) rfl
            · replace hf := ifp b16 hf
              replace hf := gd hf
              obtain ⟨g17, hf⟩ := hf
              refine Fx.run [(.aload_n 0, 1, 0, 0, .null), (.iload_n 1, 1, 1, 0, .null), (.iload_n 2, 1, 2, 0, .null), (.aload_n 0, 1, 0, 0, .null), (.getfield 28, 3, 9, 8, .ref 7), (.iload_n 3, 1, 3, 0, .null), (.iaload, 1, 200, 0, .null)] 236 (by decide +kernel) ?_
              show isK sh c 9 ∧ (isA sh (c + 7) 10 200 ∧ inb v3 200) ∧ Fx q_Mo_split 8 sh 236 [some (.ref c), some (.int v1), some (.int v2), some (.int v3), some (.int v4), some (.int v5), some (.int v6), some (.int v7), some (.int v8)] [.int (hp.1 (c + 7) (ix v3)), .int v2, .int v1, .ref c] hp (some (.int res.2)) res.1
              refine ⟨hS.1, ⟨hS.2.2.2.2.2.2.2.1, g17⟩, ?_⟩
              replace hf := bnd hf
              obtain ⟨r18, hr18, hf⟩ := hf
              refine Fx.callV (rr := (some (.int r18))) (hp1 := hp) [.int v1, .int v2, .int (hp.1 (c + 7) (ix v3))] [] lk_9_195 (by decide +kernel) (t_Mo_partnersAt sh c (hS) hp v1 v2 (hp.1 (c + 7) (ix v3)) r18 hr18) ⟨Nat.le_of_ble_eq_true rfl, Nat.le_of_ble_eq_true rfl⟩ (hS).1 (by decide) rfl (Nat.le_of_ble_eq_true rfl) ?_
              show Fx q_Mo_split 8 sh 239 [some (.ref c), some (.int v1), some (.int v2), some (.int v3), some (.int v4), some (.int v5), some (.int v6), some (.int v7), some (.int v8)] [.int r18] hp (some (.int res.2)) res.1
              refine Fx.goto (5) 244 (by decide +kernel) ?_
              obtain rfl := Option.some.inj hf
              have hk : (hp, r18) = res := hk
              subst hk
              exact Fx.iret (by decide +kernel) rfl
          · replace hf := ifp b15 hf
            replace hf := gd hf
            obtain ⟨g19, hf⟩ := hf
            refine Fx.run [(.aload_n 0, 1, 0, 0, .null), (.getfield 28, 3, 9, 8, .ref 7), (.iload_n 3, 1, 3, 0, .null), (.iconst 1, 1, 0, 0, .int 1), (.iadd, 1, 0, 0, .null), (.iaload, 1, 200, 0, .null)] 215 (by decide +kernel) ?_
            show isK sh c 9 ∧ (isA sh (c + 7) 10 200 ∧ inb (v3 + 1) 200) ∧ Fx q_Mo_split 8 sh 215 [some (.ref c), some (.int v1), some (.int v2), some (.int v3), some (.int v4), some (.int v5), some (.int v6), some (.int v7), some (.int v8)] [.int (hp.1 (c + 7) (ix (v3 + 1)))] hp (some (.int res.2)) res.1
            refine ⟨hS.1, ⟨hS.2.2.2.2.2.2.2.1, g19⟩, ?_⟩
            replace hf := bnd hf
            obtain ⟨r20, hr20, hf⟩ := hf
            refine Fx.callS (rr := (some (.int r20))) (hp1 := hp) [.int (hp.1 (c + 7) (ix (v3 + 1)))] [] lk_9_164 (by decide +kernel) (t_Mo_time sh hp (hp.1 (c + 7) (ix (v3 + 1))) r20 hr20) ⟨Nat.le_of_ble_eq_true rfl, Nat.le_of_ble_eq_true rfl⟩ rfl (Nat.le_of_ble_eq_true rfl) ?_
            show Fx q_Mo_split 8 sh 218 [some (.ref c), some (.int v1), some (.int v2), some (.int v3), some (.int v4), some (.int v5), some (.int v6), some (.int v7), some (.int v8)] [.int r20] hp (some (.int res.2)) res.1
            refine Fx.goto (26) 244 (by decide +kernel) ?_
            obtain rfl := Option.some.inj hf
            have hk : (hp, r20) = res := hk
            subst hk
            exact Fx.iret (by decide +kernel) rfl
        · replace hf := ifp b14 hf
          replace hf := gd hf
          obtain ⟨g21, hf⟩ := hf
          refine Fx.run [(.aload_n 0, 1, 0, 0, .null), (.getfield 28, 3, 9, 8, .ref 7), (.iload_n 3, 1, 3, 0, .null), (.iaload, 1, 200, 0, .null)] 195 (by decide +kernel) ?_
          show isK sh c 9 ∧ (isA sh (c + 7) 10 200 ∧ inb v3 200) ∧ Fx q_Mo_split 8 sh 195 [some (.ref c), some (.int v1), some (.int v2), some (.int v3), some (.int v4), some (.int v5), some (.int v6), some (.int v7), some (.int v8)] [.int (hp.1 (c + 7) (ix v3))] hp (some (.int res.2)) res.1
          refine ⟨hS.1, ⟨hS.2.2.2.2.2.2.2.1, g21⟩, ?_⟩
          replace hf := bnd hf
          obtain ⟨r22, hr22, hf⟩ := hf
          refine Fx.callS (rr := (some (.int r22))) (hp1 := hp) [.int (hp.1 (c + 7) (ix v3))] [] lk_9_164 (by decide +kernel) (t_Mo_time sh hp (hp.1 (c + 7) (ix v3)) r22 hr22) ⟨Nat.le_of_ble_eq_true rfl, Nat.le_of_ble_eq_true rfl⟩ rfl (Nat.le_of_ble_eq_true rfl) ?_
          show Fx q_Mo_split 8 sh 198 [some (.ref c), some (.int v1), some (.int v2), some (.int v3), some (.int v4), some (.int v5), some (.int v6), some (.int v7), some (.int v8)] [.int r22] hp (some (.int res.2)) res.1
          refine Fx.goto (46) 244 (by decide +kernel) ?_
          obtain rfl := Option.some.inj hf
          have hk : (hp, r22) = res := hk
          subst hk
          exact Fx.iret (by decide +kernel) rfl
      · replace hf := ifp b13 hf
        refine Fx.run [(.ldc 79, 2, 0, 0, .int (-10000000))] 183 (by decide +kernel) ?_
        show Fx q_Mo_split 8 sh 183 [some (.ref c), some (.int v1), some (.int v2), some (.int v3), some (.int v4), some (.int v5), some (.int v6), some (.int v7), some (.int v8)] [.int (-10000000)] hp (some (.int res.2)) res.1
        obtain rfl := Option.some.inj hf
        have hk : (hp, (-10000000)) = res := hk
        subst hk
        exact Fx.iret (by decide +kernel) rfl
    · replace hf := ifp b11 hf
      refine Fx.run [(.aload_n 0, 1, 0, 0, .null), (.getfield 240, 3, 9, 9, .null), (.iconst 1, 1, 0, 0, .int 1), (.isub, 1, 0, 0, .null)] 166 (by decide +kernel) ?_
      show isK sh c 9 ∧ Fx q_Mo_split 8 sh 166 [some (.ref c), some (.int v1), some (.int v2), some (.int v3), some (.int v4), some (.int v5), some (.int v6), some (.int v7), some (.int v8)] [.int ((hp.1 c 9) - 1)] hp (some (.int res.2)) res.1
      refine ⟨hS.1, ?_⟩
      obtain rfl := Option.some.inj hf
      have hk : (hp, ((hp.1 c 9) - 1)) = res := hk
      subst hk
      exact Fx.iret (by decide +kernel) rfl
  · replace hf := ifn b10 hf
    refine Fx.run [(.aload_n 0, 1, 0, 0, .null), (.iload_n 1, 1, 1, 0, .null), (.iload_n 2, 1, 2, 0, .null), (.iload 8, 2, 8, 0, .null)] 72 (by decide +kernel) ?_
    show Fx q_Mo_split 8 sh 72 [some (.ref c), some (.int v1), some (.int v2), some (.int v3), some (.int v4), some (.int v5), some (.int v6), some (.int v7), some (.int v8)] [.int v8, .int v2, .int v1, .ref c] hp (some (.int res.2)) res.1
    replace hf := bnd hf
    obtain ⟨r23, hr23, hf⟩ := hf
    refine Fx.callV (rr := (some (.int r23))) (hp1 := hp) [.int v1, .int v2, .int v8] [] lk_9_149 (by decide +kernel) (t_Mo_isPartner sh c (hS) hp v1 v2 v8 r23 hr23) ⟨Nat.le_of_ble_eq_true rfl, Nat.le_of_ble_eq_true rfl⟩ (hS).1 (by decide) rfl (Nat.le_of_ble_eq_true rfl) ?_
    show Fx q_Mo_split 8 sh 75 [some (.ref c), some (.int v1), some (.int v2), some (.int v3), some (.int v4), some (.int v5), some (.int v6), some (.int v7), some (.int v8)] [.int r23] hp (some (.int res.2)) res.1
    refine Fx.if_ne (6) 81 78 (by decide +kernel) (fun b24 => ?_) (fun b24 => ?_)
    · replace hf := ifn b24 hf
      refine Fx.run [(.aload_n 0, 1, 0, 0, .null), (.iload 5, 2, 5, 0, .null), (.iload 8, 2, 8, 0, .null)] 86 (by decide +kernel) ?_
      show Fx q_Mo_split 8 sh 86 [some (.ref c), some (.int v1), some (.int v2), some (.int v3), some (.int v4), some (.int v5), some (.int v6), some (.int v7), some (.int v8)] [.int v8, .int v5, .ref c] hp (some (.int res.2)) res.1
      replace hf := bnd hf
      obtain ⟨r25, hr25, hf⟩ := hf
      refine Fx.callV (rr := (some (.int r25))) (hp1 := hp) [.int v5, .int v8] [] lk_9_56 (by decide +kernel) (t_Mo_startOf sh c (hS) hp v5 v8 r25 hr25) ⟨Nat.le_of_ble_eq_true rfl, Nat.le_of_ble_eq_true rfl⟩ (hS).1 (by decide) rfl (Nat.le_of_ble_eq_true rfl) ?_
      show Fx q_Mo_split 8 sh 89 [some (.ref c), some (.int v1), some (.int v2), some (.int v3), some (.int v4), some (.int v5), some (.int v6), some (.int v7), some (.int v8)] [.int r25] hp (some (.int res.2)) res.1
      refine Fx.run [(.iload 6, 2, 6, 0, .null), (.iconst 1, 1, 0, 0, .int 1), (.iadd, 1, 0, 0, .null), (.iload 7, 2, 7, 0, .null), (.iconst 1, 1, 0, 0, .int 1), (.isub, 1, 0, 0, .null)] 97 (by decide +kernel) ?_
      show Fx q_Mo_split 8 sh 97 [some (.ref c), some (.int v1), some (.int v2), some (.int v3), some (.int v4), some (.int v5), some (.int v6), some (.int v7), some (.int v8)] [.int (v7 - 1), .int (v6 + 1), .int r25] hp (some (.int res.2)) res.1
      replace hf := bnd hf
      obtain ⟨r26, hr26, hf⟩ := hf
      refine Fx.callS (rr := (some (.int r26))) (hp1 := hp) [.int r25, .int (v6 + 1), .int (v7 - 1)] [] lk_9_48 (by decide +kernel) (t_Mo_isIn sh hp r25 (v6 + 1) (v7 - 1) r26 hr26) ⟨Nat.le_of_ble_eq_true rfl, Nat.le_of_ble_eq_true rfl⟩ rfl (Nat.le_of_ble_eq_true rfl) ?_
      show Fx q_Mo_split 8 sh 100 [some (.ref c), some (.int v1), some (.int v2), some (.int v3), some (.int v4), some (.int v5), some (.int v6), some (.int v7), some (.int v8)] [.int r26] hp (some (.int res.2)) res.1
      refine Fx.if_eq (15) 115 103 (by decide +kernel) (fun b27 => ?_) (fun b27 => ?_)
      · replace hf := ifp b27 hf
        have hl := t_Mo_split_j115 sh c hS hp v1 v2 v3 v4 v5 v6 v7 v8  res _ hf hk
        exact Fx.le hl (And.intro rfl (And.intro rfl (And.intro rfl (And.intro rfl (And.intro rfl (And.intro rfl (And.intro rfl (And.intro rfl (And.intro rfl trivial)))))))))
      · replace hf := ifn b27 hf
        refine Fx.run [(.aload_n 0, 1, 0, 0, .null), (.aload_n 0, 1, 0, 0, .null), (.iload 5, 2, 5, 0, .null), (.iload 8, 2, 8, 0, .null)] 109 (by decide +kernel) ?_
        show Fx q_Mo_split 8 sh 109 [some (.ref c), some (.int v1), some (.int v2), some (.int v3), some (.int v4), some (.int v5), some (.int v6), some (.int v7), some (.int v8)] [.int v8, .int v5, .ref c, .ref c] hp (some (.int res.2)) res.1
        replace hf := bnd hf
        obtain ⟨r34, hr34, hf⟩ := hf
        refine Fx.callV (rr := (some (.int r34))) (hp1 := hp) [.int v5, .int v8] [.ref c] lk_9_56 (by decide +kernel) (t_Mo_startOf sh c (hS) hp v5 v8 r34 hr34) ⟨Nat.le_of_ble_eq_true rfl, Nat.le_of_ble_eq_true rfl⟩ (hS).1 (by decide) rfl (Nat.le_of_ble_eq_true rfl) ?_
        show Fx q_Mo_split 8 sh 112 [some (.ref c), some (.int v1), some (.int v2), some (.int v3), some (.int v4), some (.int v5), some (.int v6), some (.int v7), some (.int v8)] [.int r34, .ref c] hp (some (.int res.2)) res.1
        replace hf := bnd hf
        obtain ⟨h36, hr35, hf⟩ := hf
        refine Fx.callV (rr := none) (hp1 := h36) [.int r34] [] lk_9_243 (by decide +kernel) (t_Mo_cuts sh c (hS) hp r34 h36 hr35) ⟨Nat.le_of_ble_eq_true rfl, Nat.le_of_ble_eq_true rfl⟩ (hS).1 (by decide) rfl (Nat.le_of_ble_eq_true rfl) ?_
        show Fx q_Mo_split 8 sh 115 [some (.ref c), some (.int v1), some (.int v2), some (.int v3), some (.int v4), some (.int v5), some (.int v6), some (.int v7), some (.int v8)] [] h36 (some (.int res.2)) res.1
        have hl := t_Mo_split_j115 sh c hS h36 v1 v2 v3 v4 v5 v6 v7 v8  res _ hf hk
        exact Fx.le hl (And.intro rfl (And.intro rfl (And.intro rfl (And.intro rfl (And.intro rfl (And.intro rfl (And.intro rfl (And.intro rfl (And.intro rfl trivial)))))))))
    · replace hf := ifp b24 hf
      refine Fx.goto (71) 149 (by decide +kernel) ?_
      refine Fx.run [(.iinc 8 1, 3, 8, 0, .int 1)] 152 (by decide +kernel) ?_
      show Fx q_Mo_split 8 sh 152 [some (.ref c), some (.int v1), some (.int v2), some (.int v3), some (.int v4), some (.int v5), some (.int v6), some (.int v7), some (.int (v8 + 1))] [] hp (some (.int res.2)) res.1
      refine Fx.goto (-99) 53 (by decide +kernel) ?_
      obtain rfl := Option.some.inj hf
      have hk : Fx q_Mo_split 8 sh 53 [some (.ref c), some (.int v1), some (.int v2), some (.int v3), some (.int v4), some (.int v5), some (.int v6), some (.int v7), some (.int (v8 + 1))] [] hp (some (.int res.2)) res.1 := hk
      exact Fx.le hk (And.intro rfl (And.intro rfl (And.intro rfl (And.intro rfl (And.intro rfl (And.intro rfl (And.intro rfl (And.intro rfl (And.intro rfl trivial)))))))))
set_option maxHeartbeats 4000000 in
set_option maxRecDepth 20000 in
theorem t_Mo_split (sh : Shp) (c : Nat) (hS : S_Mo sh c) (hp : HP) (v1 : Int32) (v2 : Int32) (v3 : Int32) (v4 : Int32) (res : (HP × Int32)) (hf : f_Mo_split c hp v1 v2 v3 v4 = some res) : Ex 8 q_Mo_split sh [.ref c, .int v1, .int v2, .int v3, .int v4] hp (some (.int res.2)) res.1 := by
  refine Ex.of [some (.ref c), some (.int v1), some (.int v2), some (.int v3), some (.int v4), none, none, none, none] rfl (Nat.le_of_ble_eq_true rfl) (by decide +kernel) rfl ?_
  obtain ⟨t, hk⟩ : ∃ t, t = res := ⟨res, rfl⟩
  rw [← hk] at hf
  unfold f_Mo_split at hf
  refine Fx.run [(.aload_n 0, 1, 0, 0, .null), (.iload_n 1, 1, 1, 0, .null), (.iload_n 2, 1, 2, 0, .null)] 3 (by decide +kernel) ?_
  show Fx q_Mo_split 8 sh 3 [some (.ref c), some (.int v1), some (.int v2), some (.int v3), some (.int v4), none, none, none, none] [.int v2, .int v1, .ref c] hp (some (.int res.2)) res.1
  replace hf := bnd hf
  obtain ⟨r1, hr1, hf⟩ := hf
  refine Fx.callV (rr := (some (.int r1))) (hp1 := hp) [.int v1, .int v2] [] lk_9_201 (by decide +kernel) (t_Mo_isRow sh c (hS) hp v1 v2 r1 hr1) ⟨Nat.le_of_ble_eq_true rfl, Nat.le_of_ble_eq_true rfl⟩ (hS).1 (by decide) rfl (Nat.le_of_ble_eq_true rfl) ?_
  show Fx q_Mo_split 8 sh 6 [some (.ref c), some (.int v1), some (.int v2), some (.int v3), some (.int v4), none, none, none, none] [.int r1] hp (some (.int res.2)) res.1
  refine Fx.if_ne (6) 12 9 (by decide +kernel) (fun b2 => ?_) (fun b2 => ?_)
  · replace hf := ifn b2 hf
    refine Fx.run [(.iconst 1, 1, 0, 0, .int 1), (.iload_n 1, 1, 1, 0, .null), (.isub, 1, 0, 0, .null), (.istore 5, 2, 5, 0, .null), (.aload_n 0, 1, 0, 0, .null), (.iload_n 1, 1, 1, 0, .null), (.iload_n 2, 1, 2, 0, .null)] 20 (by decide +kernel) ?_
    show Fx q_Mo_split 8 sh 20 [some (.ref c), some (.int v1), some (.int v2), some (.int v3), some (.int v4), some (.int (1 - v1)), none, none, none] [.int v2, .int v1, .ref c] hp (some (.int res.2)) res.1
    replace hf := bnd hf
    obtain ⟨r3, hr3, hf⟩ := hf
    refine Fx.callV (rr := (some (.int r3))) (hp1 := hp) [.int v1, .int v2] [] lk_9_56 (by decide +kernel) (t_Mo_startOf sh c (hS) hp v1 v2 r3 hr3) ⟨Nat.le_of_ble_eq_true rfl, Nat.le_of_ble_eq_true rfl⟩ (hS).1 (by decide) rfl (Nat.le_of_ble_eq_true rfl) ?_
    show Fx q_Mo_split 8 sh 23 [some (.ref c), some (.int v1), some (.int v2), some (.int v3), some (.int v4), some (.int (1 - v1)), none, none, none] [.int r3] hp (some (.int res.2)) res.1
    refine Fx.run [(.istore 6, 2, 6, 0, .null), (.aload_n 0, 1, 0, 0, .null), (.iload_n 1, 1, 1, 0, .null), (.iload_n 2, 1, 2, 0, .null)] 28 (by decide +kernel) ?_
    show Fx q_Mo_split 8 sh 28 [some (.ref c), some (.int v1), some (.int v2), some (.int v3), some (.int v4), some (.int (1 - v1)), some (.int r3), none, none] [.int v2, .int v1, .ref c] hp (some (.int res.2)) res.1
    replace hf := bnd hf
    obtain ⟨r4, hr4, hf⟩ := hf
    refine Fx.callV (rr := (some (.int r4))) (hp1 := hp) [.int v1, .int v2] [] lk_9_59 (by decide +kernel) (t_Mo_endOf sh c (hS) hp v1 v2 r4 hr4) ⟨Nat.le_of_ble_eq_true rfl, Nat.le_of_ble_eq_true rfl⟩ (hS).1 (by decide) rfl (Nat.le_of_ble_eq_true rfl) ?_
    show Fx q_Mo_split 8 sh 31 [some (.ref c), some (.int v1), some (.int v2), some (.int v3), some (.int v4), some (.int (1 - v1)), some (.int r3), none, none] [.int r4] hp (some (.int res.2)) res.1
    refine Fx.run [(.istore 7, 2, 7, 0, .null), (.aload_n 0, 1, 0, 0, .null), (.iconst 0, 1, 0, 0, .int 0), (.putfield 240, 3, 9, 9, .null), (.aload_n 0, 1, 0, 0, .null), (.iload 6, 2, 6, 0, .null)] 41 (by decide +kernel) ?_
    show isK sh c 9 ∧ Fx q_Mo_split 8 sh 41 [some (.ref c), some (.int v1), some (.int v2), some (.int v3), some (.int v4), some (.int (1 - v1)), some (.int r3), some (.int r4), none] [.int r3, .ref c] (upI hp c 9 0) (some (.int res.2)) res.1
    refine ⟨hS.1, ?_⟩
    replace hf := bnd hf
    obtain ⟨h6, hr5, hf⟩ := hf
    refine Fx.callV (rr := none) (hp1 := h6) [.int r3] [] lk_9_243 (by decide +kernel) (t_Mo_cuts sh c (hS) (upI hp c 9 0) r3 h6 hr5) ⟨Nat.le_of_ble_eq_true rfl, Nat.le_of_ble_eq_true rfl⟩ (hS).1 (by decide) rfl (Nat.le_of_ble_eq_true rfl) ?_
    show Fx q_Mo_split 8 sh 44 [some (.ref c), some (.int v1), some (.int v2), some (.int v3), some (.int v4), some (.int (1 - v1)), some (.int r3), some (.int r4), none] [] h6 (some (.int res.2)) res.1
    refine Fx.run [(.aload_n 0, 1, 0, 0, .null), (.iload 7, 2, 7, 0, .null)] 47 (by decide +kernel) ?_
    show Fx q_Mo_split 8 sh 47 [some (.ref c), some (.int v1), some (.int v2), some (.int v3), some (.int v4), some (.int (1 - v1)), some (.int r3), some (.int r4), none] [.int r4, .ref c] h6 (some (.int res.2)) res.1
    replace hf := bnd hf
    obtain ⟨h8, hr7, hf⟩ := hf
    refine Fx.callV (rr := none) (hp1 := h8) [.int r4] [] lk_9_243 (by decide +kernel) (t_Mo_cuts sh c (hS) h6 r4 h8 hr7) ⟨Nat.le_of_ble_eq_true rfl, Nat.le_of_ble_eq_true rfl⟩ (hS).1 (by decide) rfl (Nat.le_of_ble_eq_true rfl) ?_
    show Fx q_Mo_split 8 sh 50 [some (.ref c), some (.int v1), some (.int v2), some (.int v3), some (.int v4), some (.int (1 - v1)), some (.int r3), some (.int r4), none] [] h8 (some (.int res.2)) res.1
    refine Fx.run [(.iconst 0, 1, 0, 0, .int 0), (.istore 8, 2, 8, 0, .null)] 53 (by decide +kernel) ?_
    show Fx q_Mo_split 8 sh 53 [some (.ref c), some (.int v1), some (.int v2), some (.int v3), some (.int v4), some (.int (1 - v1)), some (.int r3), some (.int r4), some (.int 0)] [] h8 (some (.int res.2)) res.1
    have hl := t_Mo_split_l53 sh c hS h8 v1 v2 v3 v4 (1 - v1) r3 r4 res (h8, 0) _ hf hk
    have hl : Fx q_Mo_split 8 sh 53 [some (.ref c), some (.int v1), some (.int v2), some (.int v3), some (.int v4), some (.int (1 - v1)), some (.int r3), some (.int r4), some (.int 0)] [] h8 (some (.int res.2)) res.1 := hl
    exact Fx.le hl (And.intro rfl (And.intro rfl (And.intro rfl (And.intro rfl (And.intro rfl (And.intro rfl (And.intro rfl (And.intro rfl (And.intro rfl trivial)))))))))
  · replace hf := ifp b2 hf
    refine Fx.run [(.ldc 79, 2, 0, 0, .int (-10000000))] 11 (by decide +kernel) ?_
    show Fx q_Mo_split 8 sh 11 [some (.ref c), some (.int v1), some (.int v2), some (.int v3), some (.int v4), none, none, none, none] [.int (-10000000)] hp (some (.int res.2)) res.1
    obtain rfl := Option.some.inj hf
    have hk : (hp, (-10000000)) = res := hk
    subst hk
    exact Fx.iret (by decide +kernel) rfl
abbrev P_Mo_latest_21 (sh : Shp) (c : Nat) (hp : HP) (v1 : Int32) (v2 : Int32) (v3 : Int32) (res : Int32) : (Int32 × Int32) → Prop := fun s => Fx q_Mo_latest 4 sh 21 [some (.ref c), some (.int v1), some (.int v2), some (.int v3), some (.int s.1), some (.int s.2), none] [] hp (some (.int res)) hp
set_option maxHeartbeats 4000000 in
set_option maxRecDepth 20000 in
theorem t_Mo_latest_j82 (sh : Shp) (c : Nat) (hS : S_Mo sh c) (hp : HP) (v1 : Int32) (v2 : Int32) (v3 : Int32) (v4 : Int32) (v5 : Int32) (s0 : Int32) (res : Int32) (t : ((Int32 × Int32) ⊕ Int32)) (hf : f_Mo_latest_j82 c hp v1 v2 v3 v4 v5 s0 = some t) (hk : (Kel (P_Mo_latest_21 sh c hp v1 v2 v3 res) (fun v => v = res)) t) : Fx q_Mo_latest 4 sh 82 [some (.ref c), some (.int v1), some (.int v2), some (.int v3), some (.int v4), some (.int v5), none] [.int s0] hp (some (.int res)) hp := by
  unfold f_Mo_latest_j82 at hf
  refine Fx.run [(.istore 6, 2, 6, 0, .null), (.iload 6, 2, 6, 0, .null)] 86 (by decide +kernel) ?_
  show Fx q_Mo_latest 4 sh 86 [some (.ref c), some (.int v1), some (.int v2), some (.int v3), some (.int v4), some (.int v5), some (.int s0)] [.int s0] hp (some (.int res)) hp
  refine Fx.if_eq (30) 116 89 (by decide +kernel) (fun b8 => ?_) (fun b8 => ?_)
  · replace hf := ifp b8 hf
    refine Fx.run [(.iinc 5 1, 3, 5, 0, .int 1)] 119 (by decide +kernel) ?_
    show Fx q_Mo_latest 4 sh 119 [some (.ref c), some (.int v1), some (.int v2), some (.int v3), some (.int v4), some (.int (v5 + 1)), some (.int s0)] [] hp (some (.int res)) hp
    refine Fx.goto (-98) 21 (by decide +kernel) ?_
    obtain rfl := Option.some.inj hf
    have hk : Fx q_Mo_latest 4 sh 21 [some (.ref c), some (.int v1), some (.int v2), some (.int v3), some (.int v4), some (.int (v5 + 1)), none] [] hp (some (.int res)) hp := hk
    exact Fx.le hk (And.intro rfl (And.intro rfl (And.intro rfl (And.intro rfl (And.intro rfl (And.intro rfl trivial))))))
  · replace hf := ifn b8 hf
    refine Fx.run [(.iload 4, 2, 4, 0, .null), (.iconst (-1), 1, 0, 0, .int (-1))] 92 (by decide +kernel) ?_
    show Fx q_Mo_latest 4 sh 92 [some (.ref c), some (.int v1), some (.int v2), some (.int v3), some (.int v4), some (.int v5), some (.int s0)] [.int (-1), .int v4] hp (some (.int res)) hp
    refine Fx.icmp_eq (20) 112 95 (by decide +kernel) (fun b9 => ?_) (fun b9 => ?_)
    · replace hf := ifp b9 hf
      refine Fx.run [(.iload 5, 2, 5, 0, .null), (.istore 4, 2, 4, 0, .null), (.iinc 5 1, 3, 5, 0, .int 1)] 119 (by decide +kernel) ?_
      show Fx q_Mo_latest 4 sh 119 [some (.ref c), some (.int v1), some (.int v2), some (.int v3), some (.int v5), some (.int (v5 + 1)), some (.int s0)] [] hp (some (.int res)) hp
      refine Fx.goto (-98) 21 (by decide +kernel) ?_
      obtain rfl := Option.some.inj hf
      have hk : Fx q_Mo_latest 4 sh 21 [some (.ref c), some (.int v1), some (.int v2), some (.int v3), some (.int v5), some (.int (v5 + 1)), none] [] hp (some (.int res)) hp := hk
      exact Fx.le hk (And.intro rfl (And.intro rfl (And.intro rfl (And.intro rfl (And.intro rfl (And.intro rfl trivial))))))
    · replace hf := ifn b9 hf
      refine Fx.run [(.aload_n 0, 1, 0, 0, .null), (.iload_n 3, 1, 3, 0, .null), (.iload 5, 2, 5, 0, .null)] 99 (by decide +kernel) ?_
      show Fx q_Mo_latest 4 sh 99 [some (.ref c), some (.int v1), some (.int v2), some (.int v3), some (.int v4), some (.int v5), some (.int s0)] [.int v5, .int v3, .ref c] hp (some (.int res)) hp
      replace hf := bnd hf
      obtain ⟨r10, hr10, hf⟩ := hf
      refine Fx.callV (rr := (some (.int r10))) (hp1 := hp) [.int v3, .int v5] [] lk_9_56 (by decide +kernel) (t_Mo_startOf sh c (hS) hp v3 v5 r10 hr10) ⟨Nat.le_of_ble_eq_true rfl, Nat.le_of_ble_eq_true rfl⟩ (hS).1 (by decide) rfl (Nat.le_of_ble_eq_true rfl) ?_
      show Fx q_Mo_latest 4 sh 102 [some (.ref c), some (.int v1), some (.int v2), some (.int v3), some (.int v4), some (.int v5), some (.int s0)] [.int r10] hp (some (.int res)) hp
      refine Fx.run [(.aload_n 0, 1, 0, 0, .null), (.iload_n 3, 1, 3, 0, .null), (.iload 4, 2, 4, 0, .null)] 106 (by decide +kernel) ?_
      show Fx q_Mo_latest 4 sh 106 [some (.ref c), some (.int v1), some (.int v2), some (.int v3), some (.int v4), some (.int v5), some (.int s0)] [.int v4, .int v3, .ref c, .int r10] hp (some (.int res)) hp
      replace hf := bnd hf
      obtain ⟨r11, hr11, hf⟩ := hf
      refine Fx.callV (rr := (some (.int r11))) (hp1 := hp) [.int v3, .int v4] [.int r10] lk_9_56 (by decide +kernel) (t_Mo_startOf sh c (hS) hp v3 v4 r11 hr11) ⟨Nat.le_of_ble_eq_true rfl, Nat.le_of_ble_eq_true rfl⟩ (hS).1 (by decide) rfl (Nat.le_of_ble_eq_true rfl) ?_
      show Fx q_Mo_latest 4 sh 109 [some (.ref c), some (.int v1), some (.int v2), some (.int v3), some (.int v4), some (.int v5), some (.int s0)] [.int r11, .int r10] hp (some (.int res)) hp
      refine Fx.icmp_le (7) 116 112 (by decide +kernel) (fun b12 => ?_) (fun b12 => ?_)
      · replace hf := ifp b12 hf
        refine Fx.run [(.iinc 5 1, 3, 5, 0, .int 1)] 119 (by decide +kernel) ?_
        show Fx q_Mo_latest 4 sh 119 [some (.ref c), some (.int v1), some (.int v2), some (.int v3), some (.int v4), some (.int (v5 + 1)), some (.int s0)] [] hp (some (.int res)) hp
        refine Fx.goto (-98) 21 (by decide +kernel) ?_
        obtain rfl := Option.some.inj hf
        have hk : Fx q_Mo_latest 4 sh 21 [some (.ref c), some (.int v1), some (.int v2), some (.int v3), some (.int v4), some (.int (v5 + 1)), none] [] hp (some (.int res)) hp := hk
        exact Fx.le hk (And.intro rfl (And.intro rfl (And.intro rfl (And.intro rfl (And.intro rfl (And.intro rfl trivial))))))
      · replace hf := ifn b12 hf
        refine Fx.run [(.iload 5, 2, 5, 0, .null), (.istore 4, 2, 4, 0, .null), (.iinc 5 1, 3, 5, 0, .int 1)] 119 (by decide +kernel) ?_
        show Fx q_Mo_latest 4 sh 119 [some (.ref c), some (.int v1), some (.int v2), some (.int v3), some (.int v5), some (.int (v5 + 1)), some (.int s0)] [] hp (some (.int res)) hp
        refine Fx.goto (-98) 21 (by decide +kernel) ?_
        obtain rfl := Option.some.inj hf
        have hk : Fx q_Mo_latest 4 sh 21 [some (.ref c), some (.int v1), some (.int v2), some (.int v3), some (.int v5), some (.int (v5 + 1)), none] [] hp (some (.int res)) hp := hk
        exact Fx.le hk (And.intro rfl (And.intro rfl (And.intro rfl (And.intro rfl (And.intro rfl (And.intro rfl trivial))))))
set_option maxHeartbeats 4000000 in
set_option maxRecDepth 20000 in
theorem t_Mo_latest_j61 (sh : Shp) (c : Nat) (hS : S_Mo sh c) (hp : HP) (v1 : Int32) (v2 : Int32) (v3 : Int32) (v4 : Int32) (v5 : Int32)  (res : Int32) (t : ((Int32 × Int32) ⊕ Int32)) (hf : f_Mo_latest_j61 c hp v1 v2 v3 v4 v5  = some t) (hk : (Kel (P_Mo_latest_21 sh c hp v1 v2 v3 res) (fun v => v = res)) t) : Fx q_Mo_latest 4 sh 61 [some (.ref c), some (.int v1), some (.int v2), some (.int v3), some (.int v4), some (.int v5), none] [] hp (some (.int res)) hp := by
  unfold f_Mo_latest_j61 at hf
  refine Fx.run [(.aload_n 0, 1, 0, 0, .null), (.iload_n 3, 1, 3, 0, .null), (.iload 5, 2, 5, 0, .null)] 65 (by decide +kernel) ?_
  show Fx q_Mo_latest 4 sh 65 [some (.ref c), some (.int v1), some (.int v2), some (.int v3), some (.int v4), some (.int v5), none] [.int v5, .int v3, .ref c] hp (some (.int res)) hp
  replace hf := bnd hf
  obtain ⟨r13, hr13, hf⟩ := hf
  refine Fx.callV (rr := (some (.int r13))) (hp1 := hp) [.int v3, .int v5] [] lk_9_56 (by decide +kernel) (t_Mo_startOf sh c (hS) hp v3 v5 r13 hr13) ⟨Nat.le_of_ble_eq_true rfl, Nat.le_of_ble_eq_true rfl⟩ (hS).1 (by decide) rfl (Nat.le_of_ble_eq_true rfl) ?_
  show Fx q_Mo_latest 4 sh 68 [some (.ref c), some (.int v1), some (.int v2), some (.int v3), some (.int v4), some (.int v5), none] [.int r13] hp (some (.int res)) hp
  refine Fx.run [(.aload_n 0, 1, 0, 0, .null), (.iload_n 1, 1, 1, 0, .null), (.iload_n 2, 1, 2, 0, .null)] 71 (by decide +kernel) ?_
  show Fx q_Mo_latest 4 sh 71 [some (.ref c), some (.int v1), some (.int v2), some (.int v3), some (.int v4), some (.int v5), none] [.int v2, .int v1, .ref c, .int r13] hp (some (.int res)) hp
  replace hf := bnd hf
  obtain ⟨r14, hr14, hf⟩ := hf
  refine Fx.callV (rr := (some (.int r14))) (hp1 := hp) [.int v1, .int v2] [.int r13] lk_9_56 (by decide +kernel) (t_Mo_startOf sh c (hS) hp v1 v2 r14 hr14) ⟨Nat.le_of_ble_eq_true rfl, Nat.le_of_ble_eq_true rfl⟩ (hS).1 (by decide) rfl (Nat.le_of_ble_eq_true rfl) ?_
  show Fx q_Mo_latest 4 sh 74 [some (.ref c), some (.int v1), some (.int v2), some (.int v3), some (.int v4), some (.int v5), none] [.int r14, .int r13] hp (some (.int res)) hp
  refine Fx.icmp_gt (7) 81 77 (by decide +kernel) (fun b15 => ?_) (fun b15 => ?_)
  · replace hf := ifp b15 hf
    refine Fx.run [(.iconst 0, 1, 0, 0, .int 0)] 82 (by decide +kernel) ?_
    show Fx q_Mo_latest 4 sh 82 [some (.ref c), some (.int v1), some (.int v2), some (.int v3), some (.int v4), some (.int v5), none] [.int 0] hp (some (.int res)) hp
    have hl := t_Mo_latest_j82 sh c hS hp v1 v2 v3 v4 v5 0 res _ hf hk
    exact Fx.le hl (And.intro rfl (And.intro rfl (And.intro rfl (And.intro rfl (And.intro rfl (And.intro rfl trivial))))))
  · replace hf := ifn b15 hf
    refine Fx.run [(.iconst 1, 1, 0, 0, .int 1)] 78 (by decide +kernel) ?_
    show Fx q_Mo_latest 4 sh 78 [some (.ref c), some (.int v1), some (.int v2), some (.int v3), some (.int v4), some (.int v5), none] [.int 1] hp (some (.int res)) hp
    refine Fx.goto (4) 82 (by decide +kernel) ?_
    have hl := t_Mo_latest_j82 sh c hS hp v1 v2 v3 v4 v5 1 res _ hf hk
    exact Fx.le hl (And.intro rfl (And.intro rfl (And.intro rfl (And.intro rfl (And.intro rfl (And.intro rfl trivial))))))
set_option maxHeartbeats 4000000 in
set_option maxRecDepth 20000 in
theorem t_Mo_latest_l21 (sh : Shp) (c : Nat) (hS : S_Mo sh c) (hp : HP) (v1 : Int32) (v2 : Int32) (v3 : Int32) (res : Int32) : ∀ (s : (Int32 × Int32)) (t : Int32), f_Mo_latest_l21 c hp v1 v2 v3 s = some t → (fun v => v = res) t → P_Mo_latest_21 sh c hp v1 v2 v3 res s := by
  refine loop_ind (P_Mo_latest_21 sh c hp v1 v2 v3 res) (fun v => v = res) ?_
  intro s t hf hk
  obtain ⟨v4, v5⟩ := s
  replace hf : f_Mo_latest_b21 c hp v1 v2 v3 v4 v5 = some t := hf
  show Fx q_Mo_latest 4 sh 21 [some (.ref c), some (.int v1), some (.int v2), some (.int v3), some (.int v4), some (.int v5), none] [] hp (some (.int res)) hp
  unfold f_Mo_latest_b21 at hf
  replace hf := gd hf
  obtain ⟨g3, hf⟩ := hf
  refine Fx.run [(.iload 5, 2, 5, 0, .null), (.aload_n 0, 1, 0, 0, .null), (.getfield 9, 3, 9, 0, .ref 1), (.iconst 2, 1, 0, 0, .int 2), (.iload_n 3, 1, 3, 0, .null), (.iadd, 1, 0, 0, .null), (.iaload, 1, 4100, 0, .null)] 31 (by decide +kernel) ?_
  show isK sh c 9 ∧ (isA sh (c + 1) 10 4100 ∧ inb (2 + v3) 4100) ∧ Fx q_Mo_latest 4 sh 31 [some (.ref c), some (.int v1), some (.int v2), some (.int v3), some (.int v4), some (.int v5), none] [.int (hp.1 (c + 1) (ix (2 + v3))), .int v5] hp (some (.int res)) hp
  refine ⟨hS.1, ⟨hS.2.1, g3⟩, ?_⟩
  refine Fx.icmp_ge (91) 122 34 (by decide +kernel) (fun b4 => ?_) (fun b4 => ?_)
  · replace hf := ifp b4 hf
    replace hf := mpd hf
    obtain ⟨t, hf, rfl⟩ := hf
    refine Fx.run [(.iload 4, 2, 4, 0, .null)] 124 (by decide +kernel) ?_
    show Fx q_Mo_latest 4 sh 124 [some (.ref c), some (.int v1), some (.int v2), some (.int v3), some (.int v4), some (.int v5), none] [.int v4] hp (some (.int res)) hp
    obtain rfl := Option.some.inj hf
    have hk : v4 = res := hk
    subst hk
    exact Fx.iret (by decide +kernel) rfl
  · replace hf := ifn b4 hf
    refine Fx.run [(.iload_n 1, 1, 1, 0, .null)] 35 (by decide +kernel) ?_
    show Fx q_Mo_latest 4 sh 35 [some (.ref c), some (.int v1), some (.int v2), some (.int v3), some (.int v4), some (.int v5), none] [.int v1] hp (some (.int res)) hp
    refine Fx.if_ne (16) 51 38 (by decide +kernel) (fun b5 => ?_) (fun b5 => ?_)
    · replace hf := ifn b5 hf
      refine Fx.run [(.aload_n 0, 1, 0, 0, .null), (.iload 5, 2, 5, 0, .null), (.iload_n 2, 1, 2, 0, .null)] 55 (by decide +kernel) ?_
      show Fx q_Mo_latest 4 sh 55 [some (.ref c), some (.int v1), some (.int v2), some (.int v3), some (.int v4), some (.int v5), none] [.int v2, .int v5, .ref c] hp (some (.int res)) hp
      replace hf := bnd hf
      obtain ⟨r6, hr6, hf⟩ := hf
      refine Fx.callV (rr := (some (.int r6))) (hp1 := hp) [.int v5, .int v2] [] lk_9_69 (by decide +kernel) (t_Mo_isKeyed sh c (hS) hp v5 v2 r6 hr6) ⟨Nat.le_of_ble_eq_true rfl, Nat.le_of_ble_eq_true rfl⟩ (hS).1 (by decide) rfl (Nat.le_of_ble_eq_true rfl) ?_
      show Fx q_Mo_latest 4 sh 58 [some (.ref c), some (.int v1), some (.int v2), some (.int v3), some (.int v4), some (.int v5), none] [.int r6] hp (some (.int res)) hp
      refine Fx.if_eq (23) 81 61 (by decide +kernel) (fun b7 => ?_) (fun b7 => ?_)
      · replace hf := ifp b7 hf
        refine Fx.run [(.iconst 0, 1, 0, 0, .int 0)] 82 (by decide +kernel) ?_
        show Fx q_Mo_latest 4 sh 82 [some (.ref c), some (.int v1), some (.int v2), some (.int v3), some (.int v4), some (.int v5), none] [.int 0] hp (some (.int res)) hp
        have hl := t_Mo_latest_j82 sh c hS hp v1 v2 v3 v4 v5 0 res _ hf hk
        exact Fx.le hl (And.intro rfl (And.intro rfl (And.intro rfl (And.intro rfl (And.intro rfl (And.intro rfl trivial))))))
      · replace hf := ifn b7 hf
        have hl := t_Mo_latest_j61 sh c hS hp v1 v2 v3 v4 v5  res _ hf hk
        exact Fx.le hl (And.intro rfl (And.intro rfl (And.intro rfl (And.intro rfl (And.intro rfl (And.intro rfl trivial))))))
    · replace hf := ifp b5 hf
      refine Fx.run [(.aload_n 0, 1, 0, 0, .null), (.iload_n 2, 1, 2, 0, .null), (.iload 5, 2, 5, 0, .null)] 42 (by decide +kernel) ?_
      show Fx q_Mo_latest 4 sh 42 [some (.ref c), some (.int v1), some (.int v2), some (.int v3), some (.int v4), some (.int v5), none] [.int v5, .int v2, .ref c] hp (some (.int res)) hp
      replace hf := bnd hf
      obtain ⟨r16, hr16, hf⟩ := hf
      refine Fx.callV (rr := (some (.int r16))) (hp1 := hp) [.int v2, .int v5] [] lk_9_69 (by decide +kernel) (t_Mo_isKeyed sh c (hS) hp v2 v5 r16 hr16) ⟨Nat.le_of_ble_eq_true rfl, Nat.le_of_ble_eq_true rfl⟩ (hS).1 (by decide) rfl (Nat.le_of_ble_eq_true rfl) ?_
      show Fx q_Mo_latest 4 sh 45 [some (.ref c), some (.int v1), some (.int v2), some (.int v3), some (.int v4), some (.int v5), none] [.int r16] hp (some (.int res)) hp
      refine Fx.if_eq (36) 81 48 (by decide +kernel) (fun b17 => ?_) (fun b17 => ?_)
      · replace hf := ifp b17 hf
        refine Fx.run [(.iconst 0, 1, 0, 0, .int 0)] 82 (by decide +kernel) ?_
        show Fx q_Mo_latest 4 sh 82 [some (.ref c), some (.int v1), some (.int v2), some (.int v3), some (.int v4), some (.int v5), none] [.int 0] hp (some (.int res)) hp
        have hl := t_Mo_latest_j82 sh c hS hp v1 v2 v3 v4 v5 0 res _ hf hk
        exact Fx.le hl (And.intro rfl (And.intro rfl (And.intro rfl (And.intro rfl (And.intro rfl (And.intro rfl trivial))))))
      · replace hf := ifn b17 hf
        refine Fx.goto (13) 61 (by decide +kernel) ?_
        have hl := t_Mo_latest_j61 sh c hS hp v1 v2 v3 v4 v5  res _ hf hk
        exact Fx.le hl (And.intro rfl (And.intro rfl (And.intro rfl (And.intro rfl (And.intro rfl (And.intro rfl trivial))))))
set_option maxHeartbeats 4000000 in
set_option maxRecDepth 20000 in
theorem t_Mo_latest (sh : Shp) (c : Nat) (hS : S_Mo sh c) (hp : HP) (v1 : Int32) (v2 : Int32) (res : Int32) (hf : f_Mo_latest c hp v1 v2 = some res) : Ex 4 q_Mo_latest sh [.ref c, .int v1, .int v2] hp (some (.int res)) hp := by
  refine Ex.of [some (.ref c), some (.int v1), some (.int v2), none, none, none, none] rfl (Nat.le_of_ble_eq_true rfl) (by decide +kernel) rfl ?_
  obtain ⟨t, hk⟩ : ∃ t, t = res := ⟨res, rfl⟩
  rw [← hk] at hf
  unfold f_Mo_latest at hf
  refine Fx.run [(.aload_n 0, 1, 0, 0, .null), (.iload_n 1, 1, 1, 0, .null), (.iload_n 2, 1, 2, 0, .null)] 3 (by decide +kernel) ?_
  show Fx q_Mo_latest 4 sh 3 [some (.ref c), some (.int v1), some (.int v2), none, none, none, none] [.int v2, .int v1, .ref c] hp (some (.int res)) hp
  replace hf := bnd hf
  obtain ⟨r1, hr1, hf⟩ := hf
  refine Fx.callV (rr := (some (.int r1))) (hp1 := hp) [.int v1, .int v2] [] lk_9_201 (by decide +kernel) (t_Mo_isRow sh c (hS) hp v1 v2 r1 hr1) ⟨Nat.le_of_ble_eq_true rfl, Nat.le_of_ble_eq_true rfl⟩ (hS).1 (by decide) rfl (Nat.le_of_ble_eq_true rfl) ?_
  show Fx q_Mo_latest 4 sh 6 [some (.ref c), some (.int v1), some (.int v2), none, none, none, none] [.int r1] hp (some (.int res)) hp
  refine Fx.if_ne (5) 11 9 (by decide +kernel) (fun b2 => ?_) (fun b2 => ?_)
  · replace hf := ifn b2 hf
    refine Fx.run [(.iconst 1, 1, 0, 0, .int 1), (.iload_n 1, 1, 1, 0, .null), (.isub, 1, 0, 0, .null), (.istore_n 3, 1, 3, 0, .null), (.iconst (-1), 1, 0, 0, .int (-1)), (.istore 4, 2, 4, 0, .null), (.iconst 0, 1, 0, 0, .int 0), (.istore 5, 2, 5, 0, .null)] 21 (by decide +kernel) ?_
    show Fx q_Mo_latest 4 sh 21 [some (.ref c), some (.int v1), some (.int v2), some (.int (1 - v1)), some (.int (-1)), some (.int 0), none] [] hp (some (.int res)) hp
    have hl := t_Mo_latest_l21 sh c hS hp v1 v2 (1 - v1) res ((-1), 0) _ hf hk
    have hl : Fx q_Mo_latest 4 sh 21 [some (.ref c), some (.int v1), some (.int v2), some (.int (1 - v1)), some (.int (-1)), some (.int 0), none] [] hp (some (.int res)) hp := hl
    exact Fx.le hl (And.intro rfl (And.intro rfl (And.intro rfl (And.intro rfl (And.intro rfl (And.intro rfl trivial))))))
  · replace hf := ifp b2 hf
    refine Fx.run [(.iconst (-1), 1, 0, 0, .int (-1))] 10 (by decide +kernel) ?_
    show Fx q_Mo_latest 4 sh 10 [some (.ref c), some (.int v1), some (.int v2), none, none, none, none] [.int (-1)] hp (some (.int res)) hp
    obtain rfl := Option.some.inj hf
    have hk : (-1) = res := hk
    subst hk
    exact Fx.iret (by decide +kernel) rfl
