abbrev P_Mo_matched_16 (sh : Shp) (c : Nat) (hp : HP) (v1 : Int32) (v2 : Int32) (res : Int64) : (Int64 × Int32) → Prop := fun s => Fx q_Mo_matched 8 sh 16 [some (.ref c), some (.int v1), some (.int v2), some (.long s.1), none, some (.int s.2)] [] hp (some (.long res)) hp
set_option maxHeartbeats 4000000 in
set_option maxRecDepth 20000 in
theorem t_Mo_matched_j44 (sh : Shp) (c : Nat) (hS : S_Mo sh c) (hp : HP) (v1 : Int32) (v2 : Int32) (v3 : Int64) (v5 : Int32) (s0 : Int32) (res : Int64) (t : ((Int64 × Int32) ⊕ Int64)) (hf : f_Mo_matched_j44 c hp v1 v2 v3 v5 s0 = some t) (hk : (Kel (P_Mo_matched_16 sh c hp v1 v2 res) (fun v => v = res)) t) : Fx q_Mo_matched 8 sh 44 [some (.ref c), some (.int v1), some (.int v2), some (.long v3), none, some (.int v5)] [.int s0] hp (some (.long res)) hp := by
  unfold f_Mo_matched_j44 at hf
  refine Fx.run [(.iload_n 2, 1, 2, 0, .null)] 45 (by decide +kernel) ?_
  show Fx q_Mo_matched 8 sh 45 [some (.ref c), some (.int v1), some (.int v2), some (.long v3), none, some (.int v5)] [.int v2, .int s0] hp (some (.long res)) hp
  refine Fx.icmp_ne (10) 55 48 (by decide +kernel) (fun b7 => ?_) (fun b7 => ?_)
  · replace hf := ifn b7 hf
    refine Fx.run [(.iinc 5 1, 3, 5, 0, .int 1)] 58 (by decide +kernel) ?_
    show Fx q_Mo_matched 8 sh 58 [some (.ref c), some (.int v1), some (.int v2), some (.long v3), none, some (.int (v5 + 1))] [] hp (some (.long res)) hp
    refine Fx.goto (-42) 16 (by decide +kernel) ?_
    obtain rfl := Option.some.inj hf
    have hk : Fx q_Mo_matched 8 sh 16 [some (.ref c), some (.int v1), some (.int v2), some (.long v3), none, some (.int (v5 + 1))] [] hp (some (.long res)) hp := hk
    exact Fx.le hk (And.intro rfl (And.intro rfl (And.intro rfl (And.intro rfl (And.intro rfl trivial)))))
  · replace hf := ifp b7 hf
    refine Fx.run [(.lload_n 3, 1, 3, 0, .null), (.lconst 1, 1, 0, 0, .long 1), (.iload 5, 2, 5, 0, .null), (.lshl, 1, 0, 0, .null), (.lor, 1, 0, 0, .null), (.lstore_n 3, 1, 3, 0, .null), (.iinc 5 1, 3, 5, 0, .int 1)] 58 (by decide +kernel) ?_
    show Fx q_Mo_matched 8 sh 58 [some (.ref c), some (.int v1), some (.int v2), some (.long (v3 ||| (1 <<< (Int32.toInt64 v5 &&& 63)))), none, some (.int (v5 + 1))] [] hp (some (.long res)) hp
    refine Fx.goto (-42) 16 (by decide +kernel) ?_
    obtain rfl := Option.some.inj hf
    have hk : Fx q_Mo_matched 8 sh 16 [some (.ref c), some (.int v1), some (.int v2), some (.long (v3 ||| (1 <<< (Int32.toInt64 v5 &&& 63)))), none, some (.int (v5 + 1))] [] hp (some (.long res)) hp := hk
    exact Fx.le hk (And.intro rfl (And.intro rfl (And.intro rfl (And.intro rfl (And.intro rfl trivial)))))
set_option maxHeartbeats 4000000 in
set_option maxRecDepth 20000 in
theorem t_Mo_matched_l16 (sh : Shp) (c : Nat) (hS : S_Mo sh c) (hp : HP) (v1 : Int32) (v2 : Int32) (res : Int64) : ∀ (s : (Int64 × Int32)) (t : Int64), f_Mo_matched_l16 c hp v1 v2 s = some t → (fun v => v = res) t → P_Mo_matched_16 sh c hp v1 v2 res s := by
  refine loop_ind (P_Mo_matched_16 sh c hp v1 v2 res) (fun v => v = res) ?_
  intro s t hf hk
  obtain ⟨v3, v5⟩ := s
  replace hf : f_Mo_matched_b16 c hp v1 v2 v3 v5 = some t := hf
  show Fx q_Mo_matched 8 sh 16 [some (.ref c), some (.int v1), some (.int v2), some (.long v3), none, some (.int v5)] [] hp (some (.long res)) hp
  unfold f_Mo_matched_b16 at hf
  replace hf := gd hf
  obtain ⟨g3, hf⟩ := hf
  refine Fx.run [(.iload 5, 2, 5, 0, .null), (.aload_n 0, 1, 0, 0, .null), (.getfield 9, 3, 9, 0, .ref 1), (.iconst 2, 1, 0, 0, .int 2), (.iload_n 1, 1, 1, 0, .null), (.iadd, 1, 0, 0, .null), (.iaload, 1, 4100, 0, .null)] 26 (by decide +kernel) ?_
  show isK sh c 9 ∧ (isA sh (c + 1) 10 4100 ∧ inb (2 + v1) 4100) ∧ Fx q_Mo_matched 8 sh 26 [some (.ref c), some (.int v1), some (.int v2), some (.long v3), none, some (.int v5)] [.int (hp.1 (c + 1) (ix (2 + v1))), .int v5] hp (some (.long res)) hp
  refine ⟨hS.1, ⟨hS.2.1, g3⟩, ?_⟩
  refine Fx.icmp_ge (35) 61 29 (by decide +kernel) (fun b4 => ?_) (fun b4 => ?_)
  · replace hf := ifp b4 hf
    replace hf := mpd hf
    obtain ⟨t, hf, rfl⟩ := hf
    refine Fx.run [(.lload_n 3, 1, 3, 0, .null)] 62 (by decide +kernel) ?_
    show Fx q_Mo_matched 8 sh 62 [some (.ref c), some (.int v1), some (.int v2), some (.long v3), none, some (.int v5)] [.long v3] hp (some (.long res)) hp
    obtain rfl := Option.some.inj hf
    have hk : v3 = res := hk
    subst hk
    exact Fx.lret (by decide +kernel) rfl
  · replace hf := ifn b4 hf
    refine Fx.run [(.aload_n 0, 1, 0, 0, .null), (.iload_n 1, 1, 1, 0, .null), (.iload 5, 2, 5, 0, .null)] 33 (by decide +kernel) ?_
    show Fx q_Mo_matched 8 sh 33 [some (.ref c), some (.int v1), some (.int v2), some (.long v3), none, some (.int v5)] [.int v5, .int v1, .ref c] hp (some (.long res)) hp
    replace hf := bnd hf
    obtain ⟨r5, hr5, hf⟩ := hf
    refine Fx.callV (rr := (some (.int r5))) (hp1 := hp) [.int v1, .int v5] [] lk_9_204 (by decide +kernel) (t_Mo_partners sh c (hS) hp v1 v5 r5 hr5) ⟨Nat.le_of_ble_eq_true rfl, Nat.le_of_ble_eq_true rfl⟩ (hS).1 (by decide) rfl (Nat.le_of_ble_eq_true rfl) ?_
    show Fx q_Mo_matched 8 sh 36 [some (.ref c), some (.int v1), some (.int v2), some (.long v3), none, some (.int v5)] [.int r5] hp (some (.long res)) hp
    refine Fx.if_le (7) 43 39 (by decide +kernel) (fun b6 => ?_) (fun b6 => ?_)
    · replace hf := ifp b6 hf
      refine Fx.run [(.iconst 0, 1, 0, 0, .int 0)] 44 (by decide +kernel) ?_
      show Fx q_Mo_matched 8 sh 44 [some (.ref c), some (.int v1), some (.int v2), some (.long v3), none, some (.int v5)] [.int 0] hp (some (.long res)) hp
      have hl := t_Mo_matched_j44 sh c hS hp v1 v2 v3 v5 0 res _ hf hk
      exact Fx.le hl (And.intro rfl (And.intro rfl (And.intro rfl (And.intro rfl (And.intro rfl trivial)))))
    · replace hf := ifn b6 hf
      refine Fx.run [(.iconst 1, 1, 0, 0, .int 1)] 40 (by decide +kernel) ?_
      show Fx q_Mo_matched 8 sh 40 [some (.ref c), some (.int v1), some (.int v2), some (.long v3), none, some (.int v5)] [.int 1] hp (some (.long res)) hp
      refine Fx.goto (4) 44 (by decide +kernel) ?_
      have hl := t_Mo_matched_j44 sh c hS hp v1 v2 v3 v5 1 res _ hf hk
      exact Fx.le hl (And.intro rfl (And.intro rfl (And.intro rfl (And.intro rfl (And.intro rfl trivial)))))
set_option maxHeartbeats 4000000 in
set_option maxRecDepth 20000 in
theorem t_Mo_matched (sh : Shp) (c : Nat) (hS : S_Mo sh c) (hp : HP) (v1 : Int32) (v2 : Int32) (res : Int64) (hf : f_Mo_matched c hp v1 v2 = some res) : Ex 8 q_Mo_matched sh [.ref c, .int v1, .int v2] hp (some (.long res)) hp := by
  refine Ex.of [some (.ref c), some (.int v1), some (.int v2), none, none, none] rfl (Nat.le_of_ble_eq_true rfl) (by decide +kernel) rfl ?_
  obtain ⟨t, hk⟩ : ∃ t, t = res := ⟨res, rfl⟩
  rw [← hk] at hf
  unfold f_Mo_matched at hf
  refine Fx.run [(.iload_n 1, 1, 1, 0, .null)] 1 (by decide +kernel) ?_
  show Fx q_Mo_matched 8 sh 1 [some (.ref c), some (.int v1), some (.int v2), none, none, none] [.int v1] hp (some (.long res)) hp
  replace hf := bnd hf
  obtain ⟨r1, hr1, hf⟩ := hf
  refine Fx.callS (rr := (some (.int r1))) (hp1 := hp) [.int v1] [] lk_9_52 (by decide +kernel) (t_Mo_isSide sh hp v1 r1 hr1) ⟨Nat.le_of_ble_eq_true rfl, Nat.le_of_ble_eq_true rfl⟩ rfl (Nat.le_of_ble_eq_true rfl) ?_
  show Fx q_Mo_matched 8 sh 4 [some (.ref c), some (.int v1), some (.int v2), none, none, none] [.int r1] hp (some (.long res)) hp
  refine Fx.if_ne (7) 11 7 (by decide +kernel) (fun b2 => ?_) (fun b2 => ?_)
  · replace hf := ifn b2 hf
    refine Fx.run [(.lconst 0, 1, 0, 0, .long 0), (.lstore_n 3, 1, 3, 0, .null), (.iconst 0, 1, 0, 0, .int 0), (.istore 5, 2, 5, 0, .null)] 16 (by decide +kernel) ?_
    show Fx q_Mo_matched 8 sh 16 [some (.ref c), some (.int v1), some (.int v2), some (.long 0), none, some (.int 0)] [] hp (some (.long res)) hp
    have hl := t_Mo_matched_l16 sh c hS hp v1 v2 res (0, 0) _ hf hk
    have hl : Fx q_Mo_matched 8 sh 16 [some (.ref c), some (.int v1), some (.int v2), some (.long 0), none, some (.int 0)] [] hp (some (.long res)) hp := hl
    exact Fx.le hl (And.intro rfl (And.intro rfl (And.intro rfl (And.intro rfl (And.intro rfl trivial)))))
  · replace hf := ifp b2 hf
    refine Fx.run [(.ldc2_w 176, 3, 0, 0, .long (-1))] 10 (by decide +kernel) ?_
    show Fx q_Mo_matched 8 sh 10 [some (.ref c), some (.int v1), some (.int v2), none, none, none] [.long (-1)] hp (some (.long res)) hp
    obtain rfl := Option.some.inj hf
    have hk : (-1) = res := hk
    subst hk
    exact Fx.lret (by decide +kernel) rfl
abbrev P_Mo_isLaned_3 (sh : Shp) (c : Nat) (hp : HP) (v1 : Int32) (v2 : Int32) (v3 : Int32) (res : Int32) : (Int32) → Prop := fun s => Fx q_Mo_isLaned 6 sh 3 [some (.ref c), some (.int v1), some (.int v2), some (.int v3), some (.int s)] [] hp (some (.int res)) hp
set_option maxHeartbeats 4000000 in
set_option maxRecDepth 20000 in
theorem t_Mo_isLaned_l3 (sh : Shp) (c : Nat) (hS : S_Mo sh c) (hp : HP) (v1 : Int32) (v2 : Int32) (v3 : Int32) (res : Int32) : ∀ (s : (Int32)) (t : Int32), f_Mo_isLaned_l3 c hp v1 v2 v3 s = some t → (fun v => v = res) t → P_Mo_isLaned_3 sh c hp v1 v2 v3 res s := by
  refine loop_ind (P_Mo_isLaned_3 sh c hp v1 v2 v3 res) (fun v => v = res) ?_
  intro s t hf hk
  revert hf hk; revert s; intro v4 hf hk
  replace hf : f_Mo_isLaned_b3 c hp v1 v2 v3 v4 = some t := hf
  show Fx q_Mo_isLaned 6 sh 3 [some (.ref c), some (.int v1), some (.int v2), some (.int v3), some (.int v4)] [] hp (some (.int res)) hp
  unfold f_Mo_isLaned_b3 at hf
  replace hf := gd hf
  obtain ⟨g1, hf⟩ := hf
  refine Fx.run [(.iload 4, 2, 4, 0, .null), (.aload_n 0, 1, 0, 0, .null), (.getfield 9, 3, 9, 0, .ref 1), (.iconst 2, 1, 0, 0, .int 2), (.iload_n 1, 1, 1, 0, .null), (.iadd, 1, 0, 0, .null), (.iaload, 1, 4100, 0, .null)] 13 (by decide +kernel) ?_
  show isK sh c 9 ∧ (isA sh (c + 1) 10 4100 ∧ inb (2 + v1) 4100) ∧ Fx q_Mo_isLaned 6 sh 13 [some (.ref c), some (.int v1), some (.int v2), some (.int v3), some (.int v4)] [.int (hp.1 (c + 1) (ix (2 + v1))), .int v4] hp (some (.int res)) hp
  refine ⟨hS.1, ⟨hS.2.1, g1⟩, ?_⟩
  refine Fx.icmp_ge (51) 64 16 (by decide +kernel) (fun b2 => ?_) (fun b2 => ?_)
  · replace hf := ifp b2 hf
    replace hf := mpd hf
    obtain ⟨t, hf, rfl⟩ := hf
    refine Fx.run [(.iconst 0, 1, 0, 0, .int 0)] 65 (by decide +kernel) ?_
    show Fx q_Mo_isLaned 6 sh 65 [some (.ref c), some (.int v1), some (.int v2), some (.int v3), some (.int v4)] [.int 0] hp (some (.int res)) hp
    obtain rfl := Option.some.inj hf
    have hk : 0 = res := hk
    subst hk
    exact Fx.zret (by decide +kernel) rfl (Or.inl rfl)
  · replace hf := ifn b2 hf
    replace hf := gd hf
    obtain ⟨g3, hf⟩ := hf
    refine Fx.run [(.aload_n 0, 1, 0, 0, .null), (.getfield 31, 3, 9, 10, .ref 8), (.iload 4, 2, 4, 0, .null), (.iaload, 1, 40, 0, .null), (.iload_n 3, 1, 3, 0, .null)] 24 (by decide +kernel) ?_
    show isK sh c 9 ∧ (isA sh (c + 8) 10 40 ∧ inb v4 40) ∧ Fx q_Mo_isLaned 6 sh 24 [some (.ref c), some (.int v1), some (.int v2), some (.int v3), some (.int v4)] [.int v3, .int (hp.1 (c + 8) (ix v4))] hp (some (.int res)) hp
    refine ⟨hS.1, ⟨hS.2.2.2.2.2.2.2.2.1, g3⟩, ?_⟩
    refine Fx.icmp_ne (34) 58 27 (by decide +kernel) (fun b4 => ?_) (fun b4 => ?_)
    · replace hf := ifn b4 hf
      refine Fx.run [(.iinc 4 1, 3, 4, 0, .int 1)] 61 (by decide +kernel) ?_
      show Fx q_Mo_isLaned 6 sh 61 [some (.ref c), some (.int v1), some (.int v2), some (.int v3), some (.int (v4 + 1))] [] hp (some (.int res)) hp
      refine Fx.goto (-58) 3 (by decide +kernel) ?_
      obtain rfl := Option.some.inj hf
      have hk : Fx q_Mo_isLaned 6 sh 3 [some (.ref c), some (.int v1), some (.int v2), some (.int v3), some (.int (v4 + 1))] [] hp (some (.int res)) hp := hk
      exact Fx.le hk (And.intro rfl (And.intro rfl (And.intro rfl (And.intro rfl (And.intro rfl trivial)))))
    · replace hf := ifp b4 hf
      refine Fx.run [(.aload_n 0, 1, 0, 0, .null), (.iload_n 1, 1, 1, 0, .null), (.iload 4, 2, 4, 0, .null), (.iconst 1, 1, 0, 0, .int 1)] 32 (by decide +kernel) ?_
      show Fx q_Mo_isLaned 6 sh 32 [some (.ref c), some (.int v1), some (.int v2), some (.int v3), some (.int v4)] [.int 1, .int v4, .int v1, .ref c] hp (some (.int res)) hp
      replace hf := bnd hf
      obtain ⟨r5, hr5, hf⟩ := hf
      refine Fx.callV (rr := (some (.int r5))) (hp1 := hp) [.int v1, .int v4, .int 1] [] lk_9_44 (by decide +kernel) (t_Mo_of sh c (hS) hp v1 v4 1 r5 hr5) ⟨Nat.le_of_ble_eq_true rfl, Nat.le_of_ble_eq_true rfl⟩ (hS).1 (by decide) rfl (Nat.le_of_ble_eq_true rfl) ?_
      show Fx q_Mo_isLaned 6 sh 35 [some (.ref c), some (.int v1), some (.int v2), some (.int v3), some (.int v4)] [.int r5] hp (some (.int res)) hp
      refine Fx.run [(.aload_n 0, 1, 0, 0, .null), (.iload_n 1, 1, 1, 0, .null), (.iload_n 2, 1, 2, 0, .null), (.iconst 1, 1, 0, 0, .int 1)] 39 (by decide +kernel) ?_
      show Fx q_Mo_isLaned 6 sh 39 [some (.ref c), some (.int v1), some (.int v2), some (.int v3), some (.int v4)] [.int 1, .int v2, .int v1, .ref c, .int r5] hp (some (.int res)) hp
      replace hf := bnd hf
      obtain ⟨r6, hr6, hf⟩ := hf
      refine Fx.callV (rr := (some (.int r6))) (hp1 := hp) [.int v1, .int v2, .int 1] [.int r5] lk_9_44 (by decide +kernel) (t_Mo_of sh c (hS) hp v1 v2 1 r6 hr6) ⟨Nat.le_of_ble_eq_true rfl, Nat.le_of_ble_eq_true rfl⟩ (hS).1 (by decide) rfl (Nat.le_of_ble_eq_true rfl) ?_
      show Fx q_Mo_isLaned 6 sh 42 [some (.ref c), some (.int v1), some (.int v2), some (.int v3), some (.int v4)] [.int r6, .int r5] hp (some (.int res)) hp
      refine Fx.icmp_ne (16) 58 45 (by decide +kernel) (fun b7 => ?_) (fun b7 => ?_)
      · replace hf := ifn b7 hf
        refine Fx.run [(.iinc 4 1, 3, 4, 0, .int 1)] 61 (by decide +kernel) ?_
        show Fx q_Mo_isLaned 6 sh 61 [some (.ref c), some (.int v1), some (.int v2), some (.int v3), some (.int (v4 + 1))] [] hp (some (.int res)) hp
        refine Fx.goto (-58) 3 (by decide +kernel) ?_
        obtain rfl := Option.some.inj hf
        have hk : Fx q_Mo_isLaned 6 sh 3 [some (.ref c), some (.int v1), some (.int v2), some (.int v3), some (.int (v4 + 1))] [] hp (some (.int res)) hp := hk
        exact Fx.le hk (And.intro rfl (And.intro rfl (And.intro rfl (And.intro rfl (And.intro rfl trivial)))))
      · replace hf := ifp b7 hf
        refine Fx.run [(.aload_n 0, 1, 0, 0, .null), (.iload_n 1, 1, 1, 0, .null), (.iload_n 2, 1, 2, 0, .null), (.iload 4, 2, 4, 0, .null)] 50 (by decide +kernel) ?_
        show Fx q_Mo_isLaned 6 sh 50 [some (.ref c), some (.int v1), some (.int v2), some (.int v3), some (.int v4)] [.int v4, .int v2, .int v1, .ref c] hp (some (.int res)) hp
        replace hf := bnd hf
        obtain ⟨r8, hr8, hf⟩ := hf
        refine Fx.callV (rr := (some (.int r8))) (hp1 := hp) [.int v1, .int v2, .int v4] [] lk_9_248 (by decide +kernel) (t_Mo_doShare sh c (hS) hp v1 v2 v4 r8 hr8) ⟨Nat.le_of_ble_eq_true rfl, Nat.le_of_ble_eq_true rfl⟩ (hS).1 (by decide) rfl (Nat.le_of_ble_eq_true rfl) ?_
        show Fx q_Mo_isLaned 6 sh 53 [some (.ref c), some (.int v1), some (.int v2), some (.int v3), some (.int v4)] [.int r8] hp (some (.int res)) hp
        refine Fx.if_eq (5) 58 56 (by decide +kernel) (fun b9 => ?_) (fun b9 => ?_)
        · replace hf := ifp b9 hf
          refine Fx.run [(.iinc 4 1, 3, 4, 0, .int 1)] 61 (by decide +kernel) ?_
          show Fx q_Mo_isLaned 6 sh 61 [some (.ref c), some (.int v1), some (.int v2), some (.int v3), some (.int (v4 + 1))] [] hp (some (.int res)) hp
          refine Fx.goto (-58) 3 (by decide +kernel) ?_
          obtain rfl := Option.some.inj hf
          have hk : Fx q_Mo_isLaned 6 sh 3 [some (.ref c), some (.int v1), some (.int v2), some (.int v3), some (.int (v4 + 1))] [] hp (some (.int res)) hp := hk
          exact Fx.le hk (And.intro rfl (And.intro rfl (And.intro rfl (And.intro rfl (And.intro rfl trivial)))))
        · replace hf := ifn b9 hf
          replace hf := mpd hf
          obtain ⟨t, hf, rfl⟩ := hf
          refine Fx.run [(.iconst 1, 1, 0, 0, .int 1)] 57 (by decide +kernel) ?_
          show Fx q_Mo_isLaned 6 sh 57 [some (.ref c), some (.int v1), some (.int v2), some (.int v3), some (.int v4)] [.int 1] hp (some (.int res)) hp
          obtain rfl := Option.some.inj hf
          have hk : 1 = res := hk
          subst hk
          exact Fx.zret (by decide +kernel) rfl (Or.inr rfl)
set_option maxHeartbeats 4000000 in
set_option maxRecDepth 20000 in
theorem t_Mo_isLaned (sh : Shp) (c : Nat) (hS : S_Mo sh c) (hp : HP) (v1 : Int32) (v2 : Int32) (v3 : Int32) (res : Int32) (hf : f_Mo_isLaned c hp v1 v2 v3 = some res) : Ex 6 q_Mo_isLaned sh [.ref c, .int v1, .int v2, .int v3] hp (some (.int res)) hp := by
  refine Ex.of [some (.ref c), some (.int v1), some (.int v2), some (.int v3), none] rfl (Nat.le_of_ble_eq_true rfl) (by decide +kernel) rfl ?_
  obtain ⟨t, hk⟩ : ∃ t, t = res := ⟨res, rfl⟩
  rw [← hk] at hf
  unfold f_Mo_isLaned at hf
  refine Fx.run [(.iconst 0, 1, 0, 0, .int 0), (.istore 4, 2, 4, 0, .null)] 3 (by decide +kernel) ?_
  show Fx q_Mo_isLaned 6 sh 3 [some (.ref c), some (.int v1), some (.int v2), some (.int v3), some (.int 0)] [] hp (some (.int res)) hp
  have hl := t_Mo_isLaned_l3 sh c hS hp v1 v2 v3 res 0 _ hf hk
  have hl : Fx q_Mo_isLaned 6 sh 3 [some (.ref c), some (.int v1), some (.int v2), some (.int v3), some (.int 0)] [] hp (some (.int res)) hp := hl
  exact Fx.le hl (And.intro rfl (And.intro rfl (And.intro rfl (And.intro rfl (And.intro rfl trivial)))))
abbrev P_Mo_nextToLane_5 (sh : Shp) (c : Nat) (hp : HP) (v1 : Int32) (v2 : Int32) (res : Int32) : (Int32 × Int32) → Prop := fun s => Fx q_Mo_nextToLane 4 sh 5 [some (.ref c), some (.int v1), some (.int v2), some (.int s.1), some (.int s.2)] [] hp (some (.int res)) hp
set_option maxHeartbeats 4000000 in
set_option maxRecDepth 20000 in
theorem t_Mo_nextToLane_l5 (sh : Shp) (c : Nat) (hS : S_Mo sh c) (hp : HP) (v1 : Int32) (v2 : Int32) (res : Int32) : ∀ (s : (Int32 × Int32)) (t : Int32), f_Mo_nextToLane_l5 c hp v1 v2 s = some t → (fun v => v = res) t → P_Mo_nextToLane_5 sh c hp v1 v2 res s := by
  refine loop_ind (P_Mo_nextToLane_5 sh c hp v1 v2 res) (fun v => v = res) ?_
  intro s t hf hk
  obtain ⟨v3, v4⟩ := s
  replace hf : f_Mo_nextToLane_b5 c hp v1 v2 v3 v4 = some t := hf
  show Fx q_Mo_nextToLane 4 sh 5 [some (.ref c), some (.int v1), some (.int v2), some (.int v3), some (.int v4)] [] hp (some (.int res)) hp
  unfold f_Mo_nextToLane_b5 at hf
  replace hf := gd hf
  obtain ⟨g1, hf⟩ := hf
  refine Fx.run [(.iload 4, 2, 4, 0, .null), (.aload_n 0, 1, 0, 0, .null), (.getfield 9, 3, 9, 0, .ref 1), (.iconst 2, 1, 0, 0, .int 2), (.iload_n 1, 1, 1, 0, .null), (.iadd, 1, 0, 0, .null), (.iaload, 1, 4100, 0, .null)] 15 (by decide +kernel) ?_
  show isK sh c 9 ∧ (isA sh (c + 1) 10 4100 ∧ inb (2 + v1) 4100) ∧ Fx q_Mo_nextToLane 4 sh 15 [some (.ref c), some (.int v1), some (.int v2), some (.int v3), some (.int v4)] [.int (hp.1 (c + 1) (ix (2 + v1))), .int v4] hp (some (.int res)) hp
  refine ⟨hS.1, ⟨hS.2.1, g1⟩, ?_⟩
  refine Fx.icmp_ge (56) 71 18 (by decide +kernel) (fun b2 => ?_) (fun b2 => ?_)
  · replace hf := ifp b2 hf
    replace hf := mpd hf
    obtain ⟨t, hf, rfl⟩ := hf
    refine Fx.run [(.iload_n 3, 1, 3, 0, .null)] 72 (by decide +kernel) ?_
    show Fx q_Mo_nextToLane 4 sh 72 [some (.ref c), some (.int v1), some (.int v2), some (.int v3), some (.int v4)] [.int v3] hp (some (.int res)) hp
    obtain rfl := Option.some.inj hf
    have hk : v3 = res := hk
    subst hk
    exact Fx.iret (by decide +kernel) rfl
  · replace hf := ifn b2 hf
    replace hf := gd hf
    obtain ⟨g3, hf⟩ := hf
    refine Fx.run [(.aload_n 0, 1, 0, 0, .null), (.getfield 31, 3, 9, 10, .ref 8), (.iload 4, 2, 4, 0, .null), (.iaload, 1, 40, 0, .null), (.iconst (-1), 1, 0, 0, .int (-1))] 26 (by decide +kernel) ?_
    show isK sh c 9 ∧ (isA sh (c + 8) 10 40 ∧ inb v4 40) ∧ Fx q_Mo_nextToLane 4 sh 26 [some (.ref c), some (.int v1), some (.int v2), some (.int v3), some (.int v4)] [.int (-1), .int (hp.1 (c + 8) (ix v4))] hp (some (.int res)) hp
    refine ⟨hS.1, ⟨hS.2.2.2.2.2.2.2.2.1, g3⟩, ?_⟩
    refine Fx.icmp_ne (39) 65 29 (by decide +kernel) (fun b4 => ?_) (fun b4 => ?_)
    · replace hf := ifn b4 hf
      refine Fx.run [(.iinc 4 1, 3, 4, 0, .int 1)] 68 (by decide +kernel) ?_
      show Fx q_Mo_nextToLane 4 sh 68 [some (.ref c), some (.int v1), some (.int v2), some (.int v3), some (.int (v4 + 1))] [] hp (some (.int res)) hp
      refine Fx.goto (-63) 5 (by decide +kernel) ?_
      obtain rfl := Option.some.inj hf
      have hk : Fx q_Mo_nextToLane 4 sh 5 [some (.ref c), some (.int v1), some (.int v2), some (.int v3), some (.int (v4 + 1))] [] hp (some (.int res)) hp := hk
      exact Fx.le hk (And.intro rfl (And.intro rfl (And.intro rfl (And.intro rfl (And.intro rfl trivial)))))
    · replace hf := ifp b4 hf
      refine Fx.run [(.aload_n 0, 1, 0, 0, .null), (.iload_n 1, 1, 1, 0, .null), (.iload 4, 2, 4, 0, .null), (.iconst 1, 1, 0, 0, .int 1)] 34 (by decide +kernel) ?_
      show Fx q_Mo_nextToLane 4 sh 34 [some (.ref c), some (.int v1), some (.int v2), some (.int v3), some (.int v4)] [.int 1, .int v4, .int v1, .ref c] hp (some (.int res)) hp
      replace hf := bnd hf
      obtain ⟨r5, hr5, hf⟩ := hf
      refine Fx.callV (rr := (some (.int r5))) (hp1 := hp) [.int v1, .int v4, .int 1] [] lk_9_44 (by decide +kernel) (t_Mo_of sh c (hS) hp v1 v4 1 r5 hr5) ⟨Nat.le_of_ble_eq_true rfl, Nat.le_of_ble_eq_true rfl⟩ (hS).1 (by decide) rfl (Nat.le_of_ble_eq_true rfl) ?_
      show Fx q_Mo_nextToLane 4 sh 37 [some (.ref c), some (.int v1), some (.int v2), some (.int v3), some (.int v4)] [.int r5] hp (some (.int res)) hp
      refine Fx.run [(.iload_n 2, 1, 2, 0, .null)] 38 (by decide +kernel) ?_
      show Fx q_Mo_nextToLane 4 sh 38 [some (.ref c), some (.int v1), some (.int v2), some (.int v3), some (.int v4)] [.int v2, .int r5] hp (some (.int res)) hp
      refine Fx.icmp_ne (27) 65 41 (by decide +kernel) (fun b6 => ?_) (fun b6 => ?_)
      · replace hf := ifn b6 hf
        refine Fx.run [(.iinc 4 1, 3, 4, 0, .int 1)] 68 (by decide +kernel) ?_
        show Fx q_Mo_nextToLane 4 sh 68 [some (.ref c), some (.int v1), some (.int v2), some (.int v3), some (.int (v4 + 1))] [] hp (some (.int res)) hp
        refine Fx.goto (-63) 5 (by decide +kernel) ?_
        obtain rfl := Option.some.inj hf
        have hk : Fx q_Mo_nextToLane 4 sh 5 [some (.ref c), some (.int v1), some (.int v2), some (.int v3), some (.int (v4 + 1))] [] hp (some (.int res)) hp := hk
        exact Fx.le hk (And.intro rfl (And.intro rfl (And.intro rfl (And.intro rfl (And.intro rfl trivial)))))
      · replace hf := ifp b6 hf
        refine Fx.run [(.iload_n 3, 1, 3, 0, .null), (.iconst (-1), 1, 0, 0, .int (-1))] 43 (by decide +kernel) ?_
        show Fx q_Mo_nextToLane 4 sh 43 [some (.ref c), some (.int v1), some (.int v2), some (.int v3), some (.int v4)] [.int (-1), .int v3] hp (some (.int res)) hp
        refine Fx.icmp_eq (19) 62 46 (by decide +kernel) (fun b7 => ?_) (fun b7 => ?_)
        · replace hf := ifp b7 hf
          refine Fx.run [(.iload 4, 2, 4, 0, .null), (.istore_n 3, 1, 3, 0, .null), (.iinc 4 1, 3, 4, 0, .int 1)] 68 (by decide +kernel) ?_
          show Fx q_Mo_nextToLane 4 sh 68 [some (.ref c), some (.int v1), some (.int v2), some (.int v4), some (.int (v4 + 1))] [] hp (some (.int res)) hp
          refine Fx.goto (-63) 5 (by decide +kernel) ?_
          obtain rfl := Option.some.inj hf
          have hk : Fx q_Mo_nextToLane 4 sh 5 [some (.ref c), some (.int v1), some (.int v2), some (.int v4), some (.int (v4 + 1))] [] hp (some (.int res)) hp := hk
          exact Fx.le hk (And.intro rfl (And.intro rfl (And.intro rfl (And.intro rfl (And.intro rfl trivial)))))
        · replace hf := ifn b7 hf
          refine Fx.run [(.aload_n 0, 1, 0, 0, .null), (.iload_n 1, 1, 1, 0, .null), (.iload 4, 2, 4, 0, .null)] 50 (by decide +kernel) ?_
          show Fx q_Mo_nextToLane 4 sh 50 [some (.ref c), some (.int v1), some (.int v2), some (.int v3), some (.int v4)] [.int v4, .int v1, .ref c] hp (some (.int res)) hp
          replace hf := bnd hf
          obtain ⟨r8, hr8, hf⟩ := hf
          refine Fx.callV (rr := (some (.int r8))) (hp1 := hp) [.int v1, .int v4] [] lk_9_56 (by decide +kernel) (t_Mo_startOf sh c (hS) hp v1 v4 r8 hr8) ⟨Nat.le_of_ble_eq_true rfl, Nat.le_of_ble_eq_true rfl⟩ (hS).1 (by decide) rfl (Nat.le_of_ble_eq_true rfl) ?_
          show Fx q_Mo_nextToLane 4 sh 53 [some (.ref c), some (.int v1), some (.int v2), some (.int v3), some (.int v4)] [.int r8] hp (some (.int res)) hp
          refine Fx.run [(.aload_n 0, 1, 0, 0, .null), (.iload_n 1, 1, 1, 0, .null), (.iload_n 3, 1, 3, 0, .null)] 56 (by decide +kernel) ?_
          show Fx q_Mo_nextToLane 4 sh 56 [some (.ref c), some (.int v1), some (.int v2), some (.int v3), some (.int v4)] [.int v3, .int v1, .ref c, .int r8] hp (some (.int res)) hp
          replace hf := bnd hf
          obtain ⟨r9, hr9, hf⟩ := hf
          refine Fx.callV (rr := (some (.int r9))) (hp1 := hp) [.int v1, .int v3] [.int r8] lk_9_56 (by decide +kernel) (t_Mo_startOf sh c (hS) hp v1 v3 r9 hr9) ⟨Nat.le_of_ble_eq_true rfl, Nat.le_of_ble_eq_true rfl⟩ (hS).1 (by decide) rfl (Nat.le_of_ble_eq_true rfl) ?_
          show Fx q_Mo_nextToLane 4 sh 59 [some (.ref c), some (.int v1), some (.int v2), some (.int v3), some (.int v4)] [.int r9, .int r8] hp (some (.int res)) hp
          refine Fx.icmp_ge (6) 65 62 (by decide +kernel) (fun b10 => ?_) (fun b10 => ?_)
          · replace hf := ifp b10 hf
            refine Fx.run [(.iinc 4 1, 3, 4, 0, .int 1)] 68 (by decide +kernel) ?_
            show Fx q_Mo_nextToLane 4 sh 68 [some (.ref c), some (.int v1), some (.int v2), some (.int v3), some (.int (v4 + 1))] [] hp (some (.int res)) hp
            refine Fx.goto (-63) 5 (by decide +kernel) ?_
            obtain rfl := Option.some.inj hf
            have hk : Fx q_Mo_nextToLane 4 sh 5 [some (.ref c), some (.int v1), some (.int v2), some (.int v3), some (.int (v4 + 1))] [] hp (some (.int res)) hp := hk
            exact Fx.le hk (And.intro rfl (And.intro rfl (And.intro rfl (And.intro rfl (And.intro rfl trivial)))))
          · replace hf := ifn b10 hf
            refine Fx.run [(.iload 4, 2, 4, 0, .null), (.istore_n 3, 1, 3, 0, .null), (.iinc 4 1, 3, 4, 0, .int 1)] 68 (by decide +kernel) ?_
            show Fx q_Mo_nextToLane 4 sh 68 [some (.ref c), some (.int v1), some (.int v2), some (.int v4), some (.int (v4 + 1))] [] hp (some (.int res)) hp
            refine Fx.goto (-63) 5 (by decide +kernel) ?_
            obtain rfl := Option.some.inj hf
            have hk : Fx q_Mo_nextToLane 4 sh 5 [some (.ref c), some (.int v1), some (.int v2), some (.int v4), some (.int (v4 + 1))] [] hp (some (.int res)) hp := hk
            exact Fx.le hk (And.intro rfl (And.intro rfl (And.intro rfl (And.intro rfl (And.intro rfl trivial)))))
set_option maxHeartbeats 4000000 in
set_option maxRecDepth 20000 in
theorem t_Mo_nextToLane (sh : Shp) (c : Nat) (hS : S_Mo sh c) (hp : HP) (v1 : Int32) (v2 : Int32) (res : Int32) (hf : f_Mo_nextToLane c hp v1 v2 = some res) : Ex 4 q_Mo_nextToLane sh [.ref c, .int v1, .int v2] hp (some (.int res)) hp := by
  refine Ex.of [some (.ref c), some (.int v1), some (.int v2), none, none] rfl (Nat.le_of_ble_eq_true rfl) (by decide +kernel) rfl ?_
  obtain ⟨t, hk⟩ : ∃ t, t = res := ⟨res, rfl⟩
  rw [← hk] at hf
  unfold f_Mo_nextToLane at hf
  refine Fx.run [(.iconst (-1), 1, 0, 0, .int (-1)), (.istore_n 3, 1, 3, 0, .null), (.iconst 0, 1, 0, 0, .int 0), (.istore 4, 2, 4, 0, .null)] 5 (by decide +kernel) ?_
  show Fx q_Mo_nextToLane 4 sh 5 [some (.ref c), some (.int v1), some (.int v2), some (.int (-1)), some (.int 0)] [] hp (some (.int res)) hp
  have hl := t_Mo_nextToLane_l5 sh c hS hp v1 v2 res ((-1), 0) _ hf hk
  have hl : Fx q_Mo_nextToLane 4 sh 5 [some (.ref c), some (.int v1), some (.int v2), some (.int (-1)), some (.int 0)] [] hp (some (.int res)) hp := hl
  exact Fx.le hl (And.intro rfl (And.intro rfl (And.intro rfl (And.intro rfl (And.intro rfl trivial)))))
abbrev P_Mo_lane_13 (sh : Shp) (c : Nat) (v1 : Int32) (v2 : Int32) (res : (HP × Int32)) : (HP × Int32) → Prop := fun s => Fx q_Mo_lane 7 sh 13 [some (.ref c), some (.int v1), some (.int v2), some (.int s.2), none] [] s.1 (some (.int res.2)) res.1
abbrev P_Mo_lane_32 (sh : Shp) (c : Nat) (v1 : Int32) (v2 : Int32) (res : (HP × Int32)) : (HP) → Prop := fun s => Fx q_Mo_lane 7 sh 32 [some (.ref c), some (.int v1), some (.int v2), none, none] [] s (some (.int res.2)) res.1
abbrev P_Mo_lane_58 (sh : Shp) (c : Nat) (hp : HP) (v1 : Int32) (v2 : Int32) (v3 : Int32) (res : (HP × Int32)) : (Int32) → Prop := fun s => Fx q_Mo_lane 7 sh 58 [some (.ref c), some (.int v1), some (.int v2), some (.int v3), some (.int s)] [] hp (some (.int res.2)) res.1
set_option maxHeartbeats 4000000 in
set_option maxRecDepth 20000 in
theorem t_Mo_lane_l58 (sh : Shp) (c : Nat) (hS : S_Mo sh c) (hp : HP) (v1 : Int32) (v2 : Int32) (v3 : Int32) (res : (HP × Int32)) : ∀ (s : (Int32)) (t : ((HP) ⊕ (HP × Int32))), f_Mo_lane_l58 c hp v1 v2 v3 s = some t → (Kel (P_Mo_lane_32 sh c v1 v2 res) (fun v => v = res)) t → P_Mo_lane_58 sh c hp v1 v2 v3 res s := by
  refine loop_ind (P_Mo_lane_58 sh c hp v1 v2 v3 res) (Kel (P_Mo_lane_32 sh c v1 v2 res) (fun v => v = res)) ?_
  intro s t hf hk
  revert hf hk; revert s; intro v4 hf hk
  replace hf : f_Mo_lane_b58 c hp v1 v2 v3 v4 = some t := hf
  show Fx q_Mo_lane 7 sh 58 [some (.ref c), some (.int v1), some (.int v2), some (.int v3), some (.int v4)] [] hp (some (.int res.2)) res.1
  unfold f_Mo_lane_b58 at hf
  refine Fx.run [(.aload_n 0, 1, 0, 0, .null), (.iload_n 1, 1, 1, 0, .null), (.iload_n 3, 1, 3, 0, .null), (.iload 4, 2, 4, 0, .null)] 63 (by decide +kernel) ?_
  show Fx q_Mo_lane 7 sh 63 [some (.ref c), some (.int v1), some (.int v2), some (.int v3), some (.int v4)] [.int v4, .int v3, .int v1, .ref c] hp (some (.int res.2)) res.1
  replace hf := bnd hf
  obtain ⟨r9, hr9, hf⟩ := hf
  refine Fx.callV (rr := (some (.int r9))) (hp1 := hp) [.int v1, .int v3, .int v4] [] lk_9_254 (by decide +kernel) (t_Mo_isLaned sh c (hS) hp v1 v3 v4 r9 hr9) ⟨Nat.le_of_ble_eq_true rfl, Nat.le_of_ble_eq_true rfl⟩ (hS).1 (by decide) rfl (Nat.le_of_ble_eq_true rfl) ?_
  show Fx q_Mo_lane 7 sh 66 [some (.ref c), some (.int v1), some (.int v2), some (.int v3), some (.int v4)] [.int r9] hp (some (.int res.2)) res.1
  refine Fx.if_eq (9) 75 69 (by decide +kernel) (fun b10 => ?_) (fun b10 => ?_)
  · replace hf := ifp b10 hf
    replace hf := mpd hf
    obtain ⟨t, hf, rfl⟩ := hf
    replace hf := gd hf
    obtain ⟨g11, hf⟩ := hf
    refine Fx.run [(.aload_n 0, 1, 0, 0, .null), (.getfield 31, 3, 9, 10, .ref 8), (.iload_n 3, 1, 3, 0, .null), (.iload 4, 2, 4, 0, .null), (.iastore, 1, 40, 0, .null)] 83 (by decide +kernel) ?_
    show isK sh c 9 ∧ (isA sh (c + 8) 10 40 ∧ inb v3 40) ∧ Fx q_Mo_lane 7 sh 83 [some (.ref c), some (.int v1), some (.int v2), some (.int v3), some (.int v4)] [] (upI hp (c + 8) (ix v3) v4) (some (.int res.2)) res.1
    refine ⟨hS.1, ⟨hS.2.2.2.2.2.2.2.2.1, g11⟩, ?_⟩
    refine Fx.goto (-51) 32 (by decide +kernel) ?_
    obtain rfl := Option.some.inj hf
    have hk : Fx q_Mo_lane 7 sh 32 [some (.ref c), some (.int v1), some (.int v2), none, none] [] (upI hp (c + 8) (ix v3) v4) (some (.int res.2)) res.1 := hk
    exact Fx.le hk (And.intro rfl (And.intro rfl (And.intro rfl trivial)))
  · replace hf := ifn b10 hf
    refine Fx.run [(.iinc 4 1, 3, 4, 0, .int 1)] 72 (by decide +kernel) ?_
    show Fx q_Mo_lane 7 sh 72 [some (.ref c), some (.int v1), some (.int v2), some (.int v3), some (.int (v4 + 1))] [] hp (some (.int res.2)) res.1
    refine Fx.goto (-14) 58 (by decide +kernel) ?_
    obtain rfl := Option.some.inj hf
    have hk : Fx q_Mo_lane 7 sh 58 [some (.ref c), some (.int v1), some (.int v2), some (.int v3), some (.int (v4 + 1))] [] hp (some (.int res.2)) res.1 := hk
    exact Fx.le hk (And.intro rfl (And.intro rfl (And.intro rfl (And.intro rfl (And.intro rfl trivial)))))
set_option maxHeartbeats 4000000 in
set_option maxRecDepth 20000 in
theorem t_Mo_lane_l32 (sh : Shp) (c : Nat) (hS : S_Mo sh c) (hp : HP) (v1 : Int32) (v2 : Int32) (res : (HP × Int32)) : ∀ (s : (HP)) (t : (HP × Int32)), f_Mo_lane_l32 c hp v1 v2 s = some t → (fun v => v = res) t → P_Mo_lane_32 sh c v1 v2 res s := by
  refine loop_ind (P_Mo_lane_32 sh c v1 v2 res) (fun v => v = res) ?_
  intro s t hf hk
  revert hf hk; revert s; intro hp hf hk
  replace hf : f_Mo_lane_b32 c hp v1 v2  = some t := hf
  show Fx q_Mo_lane 7 sh 32 [some (.ref c), some (.int v1), some (.int v2), none, none] [] hp (some (.int res.2)) res.1
  unfold f_Mo_lane_b32 at hf
  replace hf := gd hf
  obtain ⟨g4, hf⟩ := hf
  refine Fx.run [(.aload_n 0, 1, 0, 0, .null), (.getfield 31, 3, 9, 10, .ref 8), (.iload_n 2, 1, 2, 0, .null), (.iaload, 1, 40, 0, .null), (.iconst (-1), 1, 0, 0, .int (-1))] 39 (by decide +kernel) ?_
  show isK sh c 9 ∧ (isA sh (c + 8) 10 40 ∧ inb v2 40) ∧ Fx q_Mo_lane 7 sh 39 [some (.ref c), some (.int v1), some (.int v2), none, none] [.int (-1), .int (hp.1 (c + 8) (ix v2))] hp (some (.int res.2)) res.1
  refine ⟨hS.1, ⟨hS.2.2.2.2.2.2.2.2.1, g4⟩, ?_⟩
  refine Fx.icmp_ne (47) 86 42 (by decide +kernel) (fun b5 => ?_) (fun b5 => ?_)
  · replace hf := ifn b5 hf
    replace hf := mpd hf
    obtain ⟨t, hf, rfl⟩ := hf
    replace hf := gd hf
    obtain ⟨g6, hf⟩ := hf
    refine Fx.run [(.aload_n 0, 1, 0, 0, .null), (.getfield 31, 3, 9, 10, .ref 8), (.iload_n 2, 1, 2, 0, .null), (.iaload, 1, 40, 0, .null)] 92 (by decide +kernel) ?_
    show isK sh c 9 ∧ (isA sh (c + 8) 10 40 ∧ inb v2 40) ∧ Fx q_Mo_lane 7 sh 92 [some (.ref c), some (.int v1), some (.int v2), none, none] [.int (hp.1 (c + 8) (ix v2))] hp (some (.int res.2)) res.1
    refine ⟨hS.1, ⟨hS.2.2.2.2.2.2.2.2.1, g6⟩, ?_⟩
    obtain rfl := Option.some.inj hf
    have hk : (hp, (hp.1 (c + 8) (ix v2))) = res := hk
    subst hk
    exact Fx.iret (by decide +kernel) rfl
  · replace hf := ifp b5 hf
    refine Fx.run [(.aload_n 0, 1, 0, 0, .null), (.iload_n 1, 1, 1, 0, .null), (.aload_n 0, 1, 0, 0, .null), (.iload_n 1, 1, 1, 0, .null), (.iload_n 2, 1, 2, 0, .null), (.iconst 1, 1, 0, 0, .int 1)] 48 (by decide +kernel) ?_
    show Fx q_Mo_lane 7 sh 48 [some (.ref c), some (.int v1), some (.int v2), none, none] [.int 1, .int v2, .int v1, .ref c, .int v1, .ref c] hp (some (.int res.2)) res.1
    replace hf := bnd hf
    obtain ⟨r7, hr7, hf⟩ := hf
    refine Fx.callV (rr := (some (.int r7))) (hp1 := hp) [.int v1, .int v2, .int 1] [.int v1, .ref c] lk_9_44 (by decide +kernel) (t_Mo_of sh c (hS) hp v1 v2 1 r7 hr7) ⟨Nat.le_of_ble_eq_true rfl, Nat.le_of_ble_eq_true rfl⟩ (hS).1 (by decide) rfl (Nat.le_of_ble_eq_true rfl) ?_
    show Fx q_Mo_lane 7 sh 51 [some (.ref c), some (.int v1), some (.int v2), none, none] [.int r7, .int v1, .ref c] hp (some (.int res.2)) res.1
    replace hf := bnd hf
    obtain ⟨r8, hr8, hf⟩ := hf
    refine Fx.callV (rr := (some (.int r8))) (hp1 := hp) [.int v1, .int r7] [] lk_9_251 (by decide +kernel) (t_Mo_nextToLane sh c (hS) hp v1 r7 r8 hr8) ⟨Nat.le_of_ble_eq_true rfl, Nat.le_of_ble_eq_true rfl⟩ (hS).1 (by decide) rfl (Nat.le_of_ble_eq_true rfl) ?_
    show Fx q_Mo_lane 7 sh 54 [some (.ref c), some (.int v1), some (.int v2), none, none] [.int r8] hp (some (.int res.2)) res.1
    refine Fx.run [(.istore_n 3, 1, 3, 0, .null), (.iconst 0, 1, 0, 0, .int 0), (.istore 4, 2, 4, 0, .null)] 58 (by decide +kernel) ?_
    show Fx q_Mo_lane 7 sh 58 [some (.ref c), some (.int v1), some (.int v2), some (.int r8), some (.int 0)] [] hp (some (.int res.2)) res.1
    have hl := t_Mo_lane_l58 sh c hS hp v1 v2 r8 res 0 _ hf hk
    have hl : Fx q_Mo_lane 7 sh 58 [some (.ref c), some (.int v1), some (.int v2), some (.int r8), some (.int 0)] [] hp (some (.int res.2)) res.1 := hl
    exact Fx.le hl (And.intro rfl (And.intro rfl (And.intro rfl (And.intro rfl (And.intro rfl trivial)))))
set_option maxHeartbeats 4000000 in
set_option maxRecDepth 20000 in
theorem t_Mo_lane_l13 (sh : Shp) (c : Nat) (hS : S_Mo sh c) (hp : HP) (v1 : Int32) (v2 : Int32) (res : (HP × Int32)) : ∀ (s : (HP × Int32)) (t : (HP × Int32)), f_Mo_lane_l13 c hp v1 v2 s = some t → (fun v => v = res) t → P_Mo_lane_13 sh c v1 v2 res s := by
  refine loop_ind (P_Mo_lane_13 sh c v1 v2 res) (fun v => v = res) ?_
  intro s t hf hk
  obtain ⟨hp, v3⟩ := s
  replace hf : f_Mo_lane_b13 c hp v1 v2 v3 = some t := hf
  show Fx q_Mo_lane 7 sh 13 [some (.ref c), some (.int v1), some (.int v2), some (.int v3), none] [] hp (some (.int res.2)) res.1
  unfold f_Mo_lane_b13 at hf
  refine Fx.run [(.iload_n 3, 1, 3, 0, .null), (.bipush 40, 2, 0, 0, .int 40)] 16 (by decide +kernel) ?_
  show Fx q_Mo_lane 7 sh 16 [some (.ref c), some (.int v1), some (.int v2), some (.int v3), none] [.int 40, .int v3] hp (some (.int res.2)) res.1
  refine Fx.icmp_ge (16) 32 19 (by decide +kernel) (fun b3 => ?_) (fun b3 => ?_)
  · replace hf := ifp b3 hf
    replace hf := mpd hf
    obtain ⟨t, hf, rfl⟩ := hf
    have hl := t_Mo_lane_l32 sh c hS hp v1 v2 res hp _ hf hk
    have hl : Fx q_Mo_lane 7 sh 32 [some (.ref c), some (.int v1), some (.int v2), none, none] [] hp (some (.int res.2)) res.1 := hl
    exact Fx.le hl (And.intro rfl (And.intro rfl (And.intro rfl trivial)))
  · replace hf := ifn b3 hf
    replace hf := gd hf
    obtain ⟨g12, hf⟩ := hf
    refine Fx.run [(.aload_n 0, 1, 0, 0, .null), (.getfield 31, 3, 9, 10, .ref 8), (.iload_n 3, 1, 3, 0, .null), (.iconst (-1), 1, 0, 0, .int (-1)), (.iastore, 1, 40, 0, .null), (.iinc 3 1, 3, 3, 0, .int 1)] 29 (by decide +kernel) ?_
    show isK sh c 9 ∧ (isA sh (c + 8) 10 40 ∧ inb v3 40) ∧ Fx q_Mo_lane 7 sh 29 [some (.ref c), some (.int v1), some (.int v2), some (.int (v3 + 1)), none] [] (upI hp (c + 8) (ix v3) (-1)) (some (.int res.2)) res.1
    refine ⟨hS.1, ⟨hS.2.2.2.2.2.2.2.2.1, g12⟩, ?_⟩
    refine Fx.goto (-16) 13 (by decide +kernel) ?_
    obtain rfl := Option.some.inj hf
    have hk : Fx q_Mo_lane 7 sh 13 [some (.ref c), some (.int v1), some (.int v2), some (.int (v3 + 1)), none] [] (upI hp (c + 8) (ix v3) (-1)) (some (.int res.2)) res.1 := hk
    exact Fx.le hk (And.intro rfl (And.intro rfl (And.intro rfl (And.intro rfl trivial))))
set_option maxHeartbeats 4000000 in
set_option maxRecDepth 20000 in
theorem t_Mo_lane (sh : Shp) (c : Nat) (hS : S_Mo sh c) (hp : HP) (v1 : Int32) (v2 : Int32) (res : (HP × Int32)) (hf : f_Mo_lane c hp v1 v2 = some res) : Ex 7 q_Mo_lane sh [.ref c, .int v1, .int v2] hp (some (.int res.2)) res.1 := by
  refine Ex.of [some (.ref c), some (.int v1), some (.int v2), none, none] rfl (Nat.le_of_ble_eq_true rfl) (by decide +kernel) rfl ?_
  obtain ⟨t, hk⟩ : ∃ t, t = res := ⟨res, rfl⟩
  rw [← hk] at hf
  unfold f_Mo_lane at hf
  refine Fx.run [(.aload_n 0, 1, 0, 0, .null), (.iload_n 1, 1, 1, 0, .null), (.iload_n 2, 1, 2, 0, .null)] 3 (by decide +kernel) ?_
  show Fx q_Mo_lane 7 sh 3 [some (.ref c), some (.int v1), some (.int v2), none, none] [.int v2, .int v1, .ref c] hp (some (.int res.2)) res.1
  replace hf := bnd hf
  obtain ⟨r1, hr1, hf⟩ := hf
  refine Fx.callV (rr := (some (.int r1))) (hp1 := hp) [.int v1, .int v2] [] lk_9_201 (by decide +kernel) (t_Mo_isRow sh c (hS) hp v1 v2 r1 hr1) ⟨Nat.le_of_ble_eq_true rfl, Nat.le_of_ble_eq_true rfl⟩ (hS).1 (by decide) rfl (Nat.le_of_ble_eq_true rfl) ?_
  show Fx q_Mo_lane 7 sh 6 [some (.ref c), some (.int v1), some (.int v2), none, none] [.int r1] hp (some (.int res.2)) res.1
  refine Fx.if_ne (5) 11 9 (by decide +kernel) (fun b2 => ?_) (fun b2 => ?_)
  · replace hf := ifn b2 hf
    refine Fx.run [(.iconst 0, 1, 0, 0, .int 0), (.istore_n 3, 1, 3, 0, .null)] 13 (by decide +kernel) ?_
    show Fx q_Mo_lane 7 sh 13 [some (.ref c), some (.int v1), some (.int v2), some (.int 0), none] [] hp (some (.int res.2)) res.1
    have hl := t_Mo_lane_l13 sh c hS hp v1 v2 res (hp, 0) _ hf hk
    have hl : Fx q_Mo_lane 7 sh 13 [some (.ref c), some (.int v1), some (.int v2), some (.int 0), none] [] hp (some (.int res.2)) res.1 := hl
    exact Fx.le hl (And.intro rfl (And.intro rfl (And.intro rfl (And.intro rfl trivial))))
  · replace hf := ifp b2 hf
    refine Fx.run [(.iconst (-1), 1, 0, 0, .int (-1))] 10 (by decide +kernel) ?_
    show Fx q_Mo_lane 7 sh 10 [some (.ref c), some (.int v1), some (.int v2), none, none] [.int (-1)] hp (some (.int res.2)) res.1
    obtain rfl := Option.some.inj hf
    have hk : (hp, (-1)) = res := hk
    subst hk
    exact Fx.iret (by decide +kernel) rfl
abbrev P_Mo_chain_22 (sh : Shp) (c : Nat) (hp : HP) (v1 : Int32) (v2 : Int32) (v3 : Int32) (res : Int32) : (Int32 × Int32) → Prop := fun s => Fx q_Mo_chain 4 sh 22 [some (.ref c), some (.int v1), some (.int v2), some (.int v3), some (.int s.1), some (.int s.2), none, none] [] hp (some (.int res)) hp
abbrev P_Mo_chain_28 (sh : Shp) (c : Nat) (hp : HP) (v1 : Int32) (v2 : Int32) (v3 : Int32) (v4 : Int32) (v5 : Int32) (res : Int32) : (Int32 × Int32) → Prop := fun s => Fx q_Mo_chain 4 sh 28 [some (.ref c), some (.int v1), some (.int v2), some (.int v3), some (.int v4), some (.int v5), some (.int s.1), some (.int s.2)] [] hp (some (.int res)) hp
set_option maxHeartbeats 4000000 in
set_option maxRecDepth 20000 in
theorem t_Mo_chain_j79 (sh : Shp) (c : Nat) (hS : S_Mo sh c) (hp : HP) (v1 : Int32) (v2 : Int32) (v3 : Int32) (v4 : Int32) (v5 : Int32) (v6 : Int32) (v7 : Int32)  (res : Int32) (t : ((Int32 × Int32) ⊕ ((Int32 × Int32) ⊕ Int32))) (hf : f_Mo_chain_j79 c hp v1 v2 v3 v4 v5 v6 v7  = some t) (hk : (Kel (P_Mo_chain_28 sh c hp v1 v2 v3 v4 v5 res) (Kel (P_Mo_chain_22 sh c hp v1 v2 v3 res) (fun v => v = res))) t) : Fx q_Mo_chain 4 sh 79 [some (.ref c), some (.int v1), some (.int v2), some (.int v3), some (.int v4), some (.int v5), some (.int v6), some (.int v7)] [] hp (some (.int res)) hp := by
  unfold f_Mo_chain_j79 at hf
  refine Fx.run [(.iload 6, 2, 6, 0, .null), (.iconst (-1), 1, 0, 0, .int (-1))] 82 (by decide +kernel) ?_
  show Fx q_Mo_chain 4 sh 82 [some (.ref c), some (.int v1), some (.int v2), some (.int v3), some (.int v4), some (.int v5), some (.int v6), some (.int v7)] [.int (-1), .int v6] hp (some (.int res)) hp
  refine Fx.icmp_eq (20) 102 85 (by decide +kernel) (fun b13 => ?_) (fun b13 => ?_)
  · replace hf := ifp b13 hf
    refine Fx.run [(.iload 7, 2, 7, 0, .null), (.istore 6, 2, 6, 0, .null), (.iinc 7 1, 3, 7, 0, .int 1)] 109 (by decide +kernel) ?_
    show Fx q_Mo_chain 4 sh 109 [some (.ref c), some (.int v1), some (.int v2), some (.int v3), some (.int v4), some (.int v5), some (.int v7), some (.int (v7 + 1))] [] hp (some (.int res)) hp
    refine Fx.goto (-81) 28 (by decide +kernel) ?_
    obtain rfl := Option.some.inj hf
    have hk : Fx q_Mo_chain 4 sh 28 [some (.ref c), some (.int v1), some (.int v2), some (.int v3), some (.int v4), some (.int v5), some (.int v7), some (.int (v7 + 1))] [] hp (some (.int res)) hp := hk
    exact Fx.le hk (And.intro rfl (And.intro rfl (And.intro rfl (And.intro rfl (And.intro rfl (And.intro rfl (And.intro rfl (And.intro rfl trivial))))))))
  · replace hf := ifn b13 hf
    refine Fx.run [(.aload_n 0, 1, 0, 0, .null), (.iload_n 1, 1, 1, 0, .null), (.iload 7, 2, 7, 0, .null)] 89 (by decide +kernel) ?_
    show Fx q_Mo_chain 4 sh 89 [some (.ref c), some (.int v1), some (.int v2), some (.int v3), some (.int v4), some (.int v5), some (.int v6), some (.int v7)] [.int v7, .int v1, .ref c] hp (some (.int res)) hp
    replace hf := bnd hf
    obtain ⟨r14, hr14, hf⟩ := hf
    refine Fx.callV (rr := (some (.int r14))) (hp1 := hp) [.int v1, .int v7] [] lk_9_59 (by decide +kernel) (t_Mo_endOf sh c (hS) hp v1 v7 r14 hr14) ⟨Nat.le_of_ble_eq_true rfl, Nat.le_of_ble_eq_true rfl⟩ (hS).1 (by decide) rfl (Nat.le_of_ble_eq_true rfl) ?_
    show Fx q_Mo_chain 4 sh 92 [some (.ref c), some (.int v1), some (.int v2), some (.int v3), some (.int v4), some (.int v5), some (.int v6), some (.int v7)] [.int r14] hp (some (.int res)) hp
    refine Fx.run [(.aload_n 0, 1, 0, 0, .null), (.iload_n 1, 1, 1, 0, .null), (.iload 6, 2, 6, 0, .null)] 96 (by decide +kernel) ?_
    show Fx q_Mo_chain 4 sh 96 [some (.ref c), some (.int v1), some (.int v2), some (.int v3), some (.int v4), some (.int v5), some (.int v6), some (.int v7)] [.int v6, .int v1, .ref c, .int r14] hp (some (.int res)) hp
    replace hf := bnd hf
    obtain ⟨r15, hr15, hf⟩ := hf
    refine Fx.callV (rr := (some (.int r15))) (hp1 := hp) [.int v1, .int v6] [.int r14] lk_9_59 (by decide +kernel) (t_Mo_endOf sh c (hS) hp v1 v6 r15 hr15) ⟨Nat.le_of_ble_eq_true rfl, Nat.le_of_ble_eq_true rfl⟩ (hS).1 (by decide) rfl (Nat.le_of_ble_eq_true rfl) ?_
    show Fx q_Mo_chain 4 sh 99 [some (.ref c), some (.int v1), some (.int v2), some (.int v3), some (.int v4), some (.int v5), some (.int v6), some (.int v7)] [.int r15, .int r14] hp (some (.int res)) hp
    refine Fx.icmp_ge (7) 106 102 (by decide +kernel) (fun b16 => ?_) (fun b16 => ?_)
    · replace hf := ifp b16 hf
      refine Fx.run [(.iinc 7 1, 3, 7, 0, .int 1)] 109 (by decide +kernel) ?_
      show Fx q_Mo_chain 4 sh 109 [some (.ref c), some (.int v1), some (.int v2), some (.int v3), some (.int v4), some (.int v5), some (.int v6), some (.int (v7 + 1))] [] hp (some (.int res)) hp
      refine Fx.goto (-81) 28 (by decide +kernel) ?_
      obtain rfl := Option.some.inj hf
      have hk : Fx q_Mo_chain 4 sh 28 [some (.ref c), some (.int v1), some (.int v2), some (.int v3), some (.int v4), some (.int v5), some (.int v6), some (.int (v7 + 1))] [] hp (some (.int res)) hp := hk
      exact Fx.le hk (And.intro rfl (And.intro rfl (And.intro rfl (And.intro rfl (And.intro rfl (And.intro rfl (And.intro rfl (And.intro rfl trivial))))))))
    · replace hf := ifn b16 hf
      refine Fx.run [(.iload 7, 2, 7, 0, .null), (.istore 6, 2, 6, 0, .null), (.iinc 7 1, 3, 7, 0, .int 1)] 109 (by decide +kernel) ?_
      show Fx q_Mo_chain 4 sh 109 [some (.ref c), some (.int v1), some (.int v2), some (.int v3), some (.int v4), some (.int v5), some (.int v7), some (.int (v7 + 1))] [] hp (some (.int res)) hp
      refine Fx.goto (-81) 28 (by decide +kernel) ?_
      obtain rfl := Option.some.inj hf
      have hk : Fx q_Mo_chain 4 sh 28 [some (.ref c), some (.int v1), some (.int v2), some (.int v3), some (.int v4), some (.int v5), some (.int v7), some (.int (v7 + 1))] [] hp (some (.int res)) hp := hk
      exact Fx.le hk (And.intro rfl (And.intro rfl (And.intro rfl (And.intro rfl (And.intro rfl (And.intro rfl (And.intro rfl (And.intro rfl trivial))))))))
set_option maxHeartbeats 4000000 in
set_option maxRecDepth 20000 in
theorem t_Mo_chain_l28 (sh : Shp) (c : Nat) (hS : S_Mo sh c) (hp : HP) (v1 : Int32) (v2 : Int32) (v3 : Int32) (v4 : Int32) (v5 : Int32) (res : Int32) : ∀ (s : (Int32 × Int32)) (t : ((Int32 × Int32) ⊕ Int32)), f_Mo_chain_l28 c hp v1 v2 v3 v4 v5 s = some t → (Kel (P_Mo_chain_22 sh c hp v1 v2 v3 res) (fun v => v = res)) t → P_Mo_chain_28 sh c hp v1 v2 v3 v4 v5 res s := by
  refine loop_ind (P_Mo_chain_28 sh c hp v1 v2 v3 v4 v5 res) (Kel (P_Mo_chain_22 sh c hp v1 v2 v3 res) (fun v => v = res)) ?_
  intro s t hf hk
  obtain ⟨v6, v7⟩ := s
  replace hf : f_Mo_chain_b28 c hp v1 v2 v3 v4 v5 v6 v7 = some t := hf
  show Fx q_Mo_chain 4 sh 28 [some (.ref c), some (.int v1), some (.int v2), some (.int v3), some (.int v4), some (.int v5), some (.int v6), some (.int v7)] [] hp (some (.int res)) hp
  unfold f_Mo_chain_b28 at hf
  replace hf := gd hf
  obtain ⟨g5, hf⟩ := hf
  refine Fx.run [(.iload 7, 2, 7, 0, .null), (.aload_n 0, 1, 0, 0, .null), (.getfield 9, 3, 9, 0, .ref 1), (.iconst 2, 1, 0, 0, .int 2), (.iload_n 1, 1, 1, 0, .null), (.iadd, 1, 0, 0, .null), (.iaload, 1, 4100, 0, .null)] 38 (by decide +kernel) ?_
  show isK sh c 9 ∧ (isA sh (c + 1) 10 4100 ∧ inb (2 + v1) 4100) ∧ Fx q_Mo_chain 4 sh 38 [some (.ref c), some (.int v1), some (.int v2), some (.int v3), some (.int v4), some (.int v5), some (.int v6), some (.int v7)] [.int (hp.1 (c + 1) (ix (2 + v1))), .int v7] hp (some (.int res)) hp
  refine ⟨hS.1, ⟨hS.2.1, g5⟩, ?_⟩
  refine Fx.icmp_ge (74) 112 41 (by decide +kernel) (fun b6 => ?_) (fun b6 => ?_)
  · replace hf := ifp b6 hf
    replace hf := mpd hf
    obtain ⟨t, hf, rfl⟩ := hf
    refine Fx.run [(.iload 6, 2, 6, 0, .null), (.iconst (-1), 1, 0, 0, .int (-1))] 115 (by decide +kernel) ?_
    show Fx q_Mo_chain 4 sh 115 [some (.ref c), some (.int v1), some (.int v2), some (.int v3), some (.int v4), some (.int v5), some (.int v6), some (.int v7)] [.int (-1), .int v6] hp (some (.int res)) hp
    refine Fx.icmp_ne (15) 130 118 (by decide +kernel) (fun b7 => ?_) (fun b7 => ?_)
    · replace hf := ifn b7 hf
      refine Fx.run [(.iload 5, 2, 5, 0, .null), (.iload_n 3, 1, 3, 0, .null)] 133 (by decide +kernel) ?_
      show Fx q_Mo_chain 4 sh 133 [some (.ref c), some (.int v1), some (.int v2), some (.int v3), some (.int v4), some (.int v5), some (.int v6), some (.int v7)] [.int v3, .int v5] hp (some (.int res)) hp
      refine Fx.icmp_ne (6) 139 136 (by decide +kernel) (fun b8 => ?_) (fun b8 => ?_)
      · replace hf := ifn b8 hf
        refine Fx.run [(.iload 6, 2, 6, 0, .null), (.istore 4, 2, 4, 0, .null), (.iinc 5 1, 3, 5, 0, .int 1)] 146 (by decide +kernel) ?_
        show Fx q_Mo_chain 4 sh 146 [some (.ref c), some (.int v1), some (.int v2), some (.int v3), some (.int v6), some (.int (v5 + 1)), some (.int v6), some (.int v7)] [] hp (some (.int res)) hp
        refine Fx.goto (-124) 22 (by decide +kernel) ?_
        obtain rfl := Option.some.inj hf
        have hk : Fx q_Mo_chain 4 sh 22 [some (.ref c), some (.int v1), some (.int v2), some (.int v3), some (.int v6), some (.int (v5 + 1)), none, none] [] hp (some (.int res)) hp := hk
        exact Fx.le hk (And.intro rfl (And.intro rfl (And.intro rfl (And.intro rfl (And.intro rfl (And.intro rfl trivial))))))
      · replace hf := ifp b8 hf
        replace hf := mpd hf
        obtain ⟨t, hf, rfl⟩ := hf
        refine Fx.run [(.iload 6, 2, 6, 0, .null)] 138 (by decide +kernel) ?_
        show Fx q_Mo_chain 4 sh 138 [some (.ref c), some (.int v1), some (.int v2), some (.int v3), some (.int v4), some (.int v5), some (.int v6), some (.int v7)] [.int v6] hp (some (.int res)) hp
        obtain rfl := Option.some.inj hf
        have hk : v6 = res := hk
        subst hk
        exact Fx.iret (by decide +kernel) rfl
    · replace hf := ifp b7 hf
      replace hf := mpd hf
      obtain ⟨t, hf, rfl⟩ := hf
      refine Fx.run [(.iload_n 3, 1, 3, 0, .null), (.iconst (-1), 1, 0, 0, .int (-1))] 120 (by decide +kernel) ?_
      show Fx q_Mo_chain 4 sh 120 [some (.ref c), some (.int v1), some (.int v2), some (.int v3), some (.int v4), some (.int v5), some (.int v6), some (.int v7)] [.int (-1), .int v3] hp (some (.int res)) hp
      refine Fx.icmp_ne (8) 128 123 (by decide +kernel) (fun b9 => ?_) (fun b9 => ?_)
      · replace hf := ifn b9 hf
        refine Fx.run [(.iconst (-1), 1, 0, 0, .int (-1))] 129 (by decide +kernel) ?_
        show Fx q_Mo_chain 4 sh 129 [some (.ref c), some (.int v1), some (.int v2), some (.int v3), some (.int v4), some (.int v5), some (.int v6), some (.int v7)] [.int (-1)] hp (some (.int res)) hp
        obtain rfl := Option.some.inj hf
        have hk : (-1) = res := hk
        subst hk
        exact Fx.iret (by decide +kernel) rfl
      · replace hf := ifp b9 hf
        refine Fx.run [(.iload 5, 2, 5, 0, .null)] 125 (by decide +kernel) ?_
        show Fx q_Mo_chain 4 sh 125 [some (.ref c), some (.int v1), some (.int v2), some (.int v3), some (.int v4), some (.int v5), some (.int v6), some (.int v7)] [.int v5] hp (some (.int res)) hp
        refine Fx.goto (4) 129 (by decide +kernel) ?_
        obtain rfl := Option.some.inj hf
        have hk : v5 = res := hk
        subst hk
        exact Fx.iret (by decide +kernel) rfl
  · replace hf := ifn b6 hf
    refine Fx.run [(.aload_n 0, 1, 0, 0, .null), (.iload_n 1, 1, 1, 0, .null), (.iload 7, 2, 7, 0, .null), (.iconst 1, 1, 0, 0, .int 1)] 46 (by decide +kernel) ?_
    show Fx q_Mo_chain 4 sh 46 [some (.ref c), some (.int v1), some (.int v2), some (.int v3), some (.int v4), some (.int v5), some (.int v6), some (.int v7)] [.int 1, .int v7, .int v1, .ref c] hp (some (.int res)) hp
    replace hf := bnd hf
    obtain ⟨r10, hr10, hf⟩ := hf
    refine Fx.callV (rr := (some (.int r10))) (hp1 := hp) [.int v1, .int v7, .int 1] [] lk_9_44 (by decide +kernel) (t_Mo_of sh c (hS) hp v1 v7 1 r10 hr10) ⟨Nat.le_of_ble_eq_true rfl, Nat.le_of_ble_eq_true rfl⟩ (hS).1 (by decide) rfl (Nat.le_of_ble_eq_true rfl) ?_
    show Fx q_Mo_chain 4 sh 49 [some (.ref c), some (.int v1), some (.int v2), some (.int v3), some (.int v4), some (.int v5), some (.int v6), some (.int v7)] [.int r10] hp (some (.int res)) hp
    refine Fx.run [(.iload_n 2, 1, 2, 0, .null)] 50 (by decide +kernel) ?_
    show Fx q_Mo_chain 4 sh 50 [some (.ref c), some (.int v1), some (.int v2), some (.int v3), some (.int v4), some (.int v5), some (.int v6), some (.int v7)] [.int v2, .int r10] hp (some (.int res)) hp
    refine Fx.icmp_ne (56) 106 53 (by decide +kernel) (fun b11 => ?_) (fun b11 => ?_)
    · replace hf := ifn b11 hf
      refine Fx.run [(.iinc 7 1, 3, 7, 0, .int 1)] 109 (by decide +kernel) ?_
      show Fx q_Mo_chain 4 sh 109 [some (.ref c), some (.int v1), some (.int v2), some (.int v3), some (.int v4), some (.int v5), some (.int v6), some (.int (v7 + 1))] [] hp (some (.int res)) hp
      refine Fx.goto (-81) 28 (by decide +kernel) ?_
      obtain rfl := Option.some.inj hf
      have hk : Fx q_Mo_chain 4 sh 28 [some (.ref c), some (.int v1), some (.int v2), some (.int v3), some (.int v4), some (.int v5), some (.int v6), some (.int (v7 + 1))] [] hp (some (.int res)) hp := hk
      exact Fx.le hk (And.intro rfl (And.intro rfl (And.intro rfl (And.intro rfl (And.intro rfl (And.intro rfl (And.intro rfl (And.intro rfl trivial))))))))
    · replace hf := ifp b11 hf
      refine Fx.run [(.iload 4, 2, 4, 0, .null), (.iconst (-1), 1, 0, 0, .int (-1))] 56 (by decide +kernel) ?_
      show Fx q_Mo_chain 4 sh 56 [some (.ref c), some (.int v1), some (.int v2), some (.int v3), some (.int v4), some (.int v5), some (.int v6), some (.int v7)] [.int (-1), .int v4] hp (some (.int res)) hp
      refine Fx.icmp_eq (23) 79 59 (by decide +kernel) (fun b12 => ?_) (fun b12 => ?_)
      · replace hf := ifp b12 hf
        have hl := t_Mo_chain_j79 sh c hS hp v1 v2 v3 v4 v5 v6 v7  res _ hf hk
        exact Fx.le hl (And.intro rfl (And.intro rfl (And.intro rfl (And.intro rfl (And.intro rfl (And.intro rfl (And.intro rfl (And.intro rfl trivial))))))))
      · replace hf := ifn b12 hf
        refine Fx.run [(.aload_n 0, 1, 0, 0, .null), (.iload_n 1, 1, 1, 0, .null), (.iload 7, 2, 7, 0, .null)] 63 (by decide +kernel) ?_
        show Fx q_Mo_chain 4 sh 63 [some (.ref c), some (.int v1), some (.int v2), some (.int v3), some (.int v4), some (.int v5), some (.int v6), some (.int v7)] [.int v7, .int v1, .ref c] hp (some (.int res)) hp
        replace hf := bnd hf
        obtain ⟨r17, hr17, hf⟩ := hf
        refine Fx.callV (rr := (some (.int r17))) (hp1 := hp) [.int v1, .int v7] [] lk_9_56 (by decide +kernel) (t_Mo_startOf sh c (hS) hp v1 v7 r17 hr17) ⟨Nat.le_of_ble_eq_true rfl, Nat.le_of_ble_eq_true rfl⟩ (hS).1 (by decide) rfl (Nat.le_of_ble_eq_true rfl) ?_
        show Fx q_Mo_chain 4 sh 66 [some (.ref c), some (.int v1), some (.int v2), some (.int v3), some (.int v4), some (.int v5), some (.int v6), some (.int v7)] [.int r17] hp (some (.int res)) hp
        refine Fx.run [(.aload_n 0, 1, 0, 0, .null), (.iload_n 1, 1, 1, 0, .null), (.iload 4, 2, 4, 0, .null)] 70 (by decide +kernel) ?_
        show Fx q_Mo_chain 4 sh 70 [some (.ref c), some (.int v1), some (.int v2), some (.int v3), some (.int v4), some (.int v5), some (.int v6), some (.int v7)] [.int v4, .int v1, .ref c, .int r17] hp (some (.int res)) hp
        replace hf := bnd hf
        obtain ⟨r18, hr18, hf⟩ := hf
        refine Fx.callV (rr := (some (.int r18))) (hp1 := hp) [.int v1, .int v4] [.int r17] lk_9_59 (by decide +kernel) (t_Mo_endOf sh c (hS) hp v1 v4 r18 hr18) ⟨Nat.le_of_ble_eq_true rfl, Nat.le_of_ble_eq_true rfl⟩ (hS).1 (by decide) rfl (Nat.le_of_ble_eq_true rfl) ?_
        show Fx q_Mo_chain 4 sh 73 [some (.ref c), some (.int v1), some (.int v2), some (.int v3), some (.int v4), some (.int v5), some (.int v6), some (.int v7)] [.int r18, .int r17] hp (some (.int res)) hp
        refine Fx.icmp_ge (6) 79 76 (by decide +kernel) (fun b19 => ?_) (fun b19 => ?_)
        · replace hf := ifp b19 hf
          have hl := t_Mo_chain_j79 sh c hS hp v1 v2 v3 v4 v5 v6 v7  res _ hf hk
          exact Fx.le hl (And.intro rfl (And.intro rfl (And.intro rfl (And.intro rfl (And.intro rfl (And.intro rfl (And.intro rfl (And.intro rfl trivial))))))))
        · replace hf := ifn b19 hf
          refine Fx.goto (30) 106 (by decide +kernel) ?_
          refine Fx.run [(.iinc 7 1, 3, 7, 0, .int 1)] 109 (by decide +kernel) ?_
          show Fx q_Mo_chain 4 sh 109 [some (.ref c), some (.int v1), some (.int v2), some (.int v3), some (.int v4), some (.int v5), some (.int v6), some (.int (v7 + 1))] [] hp (some (.int res)) hp
          refine Fx.goto (-81) 28 (by decide +kernel) ?_
          obtain rfl := Option.some.inj hf
          have hk : Fx q_Mo_chain 4 sh 28 [some (.ref c), some (.int v1), some (.int v2), some (.int v3), some (.int v4), some (.int v5), some (.int v6), some (.int (v7 + 1))] [] hp (some (.int res)) hp := hk
          exact Fx.le hk (And.intro rfl (And.intro rfl (And.intro rfl (And.intro rfl (And.intro rfl (And.intro rfl (And.intro rfl (And.intro rfl trivial))))))))
set_option maxHeartbeats 4000000 in
set_option maxRecDepth 20000 in
theorem t_Mo_chain_l22 (sh : Shp) (c : Nat) (hS : S_Mo sh c) (hp : HP) (v1 : Int32) (v2 : Int32) (v3 : Int32) (res : Int32) : ∀ (s : (Int32 × Int32)) (t : Int32), f_Mo_chain_l22 c hp v1 v2 v3 s = some t → (fun v => v = res) t → P_Mo_chain_22 sh c hp v1 v2 v3 res s := by
  refine loop_ind (P_Mo_chain_22 sh c hp v1 v2 v3 res) (fun v => v = res) ?_
  intro s t hf hk
  obtain ⟨v4, v5⟩ := s
  replace hf : f_Mo_chain_b22 c hp v1 v2 v3 v4 v5 = some t := hf
  show Fx q_Mo_chain 4 sh 22 [some (.ref c), some (.int v1), some (.int v2), some (.int v3), some (.int v4), some (.int v5), none, none] [] hp (some (.int res)) hp
  unfold f_Mo_chain_b22 at hf
  refine Fx.run [(.iconst (-1), 1, 0, 0, .int (-1)), (.istore 6, 2, 6, 0, .null), (.iconst 0, 1, 0, 0, .int 0), (.istore 7, 2, 7, 0, .null)] 28 (by decide +kernel) ?_
  show Fx q_Mo_chain 4 sh 28 [some (.ref c), some (.int v1), some (.int v2), some (.int v3), some (.int v4), some (.int v5), some (.int (-1)), some (.int 0)] [] hp (some (.int res)) hp
  have hl := t_Mo_chain_l28 sh c hS hp v1 v2 v3 v4 v5 res ((-1), 0) _ hf hk
  have hl : Fx q_Mo_chain 4 sh 28 [some (.ref c), some (.int v1), some (.int v2), some (.int v3), some (.int v4), some (.int v5), some (.int (-1)), some (.int 0)] [] hp (some (.int res)) hp := hl
  exact Fx.le hl (And.intro rfl (And.intro rfl (And.intro rfl (And.intro rfl (And.intro rfl (And.intro rfl (And.intro rfl (And.intro rfl trivial))))))))
set_option maxHeartbeats 4000000 in
set_option maxRecDepth 20000 in
theorem t_Mo_chain (sh : Shp) (c : Nat) (hS : S_Mo sh c) (hp : HP) (v1 : Int32) (v2 : Int32) (v3 : Int32) (res : Int32) (hf : f_Mo_chain c hp v1 v2 v3 = some res) : Ex 4 q_Mo_chain sh [.ref c, .int v1, .int v2, .int v3] hp (some (.int res)) hp := by
  refine Ex.of [some (.ref c), some (.int v1), some (.int v2), some (.int v3), none, none, none, none] rfl (Nat.le_of_ble_eq_true rfl) (by decide +kernel) rfl ?_
  obtain ⟨t, hk⟩ : ∃ t, t = res := ⟨res, rfl⟩
  rw [← hk] at hf
  unfold f_Mo_chain at hf
  refine Fx.run [(.iload_n 1, 1, 1, 0, .null)] 1 (by decide +kernel) ?_
  show Fx q_Mo_chain 4 sh 1 [some (.ref c), some (.int v1), some (.int v2), some (.int v3), none, none, none, none] [.int v1] hp (some (.int res)) hp
  replace hf := bnd hf
  obtain ⟨r1, hr1, hf⟩ := hf
  refine Fx.callS (rr := (some (.int r1))) (hp1 := hp) [.int v1] [] lk_9_52 (by decide +kernel) (t_Mo_isSide sh hp v1 r1 hr1) ⟨Nat.le_of_ble_eq_true rfl, Nat.le_of_ble_eq_true rfl⟩ rfl (Nat.le_of_ble_eq_true rfl) ?_
  show Fx q_Mo_chain 4 sh 4 [some (.ref c), some (.int v1), some (.int v2), some (.int v3), none, none, none, none] [.int r1] hp (some (.int res)) hp
  refine Fx.if_eq (10) 14 7 (by decide +kernel) (fun b2 => ?_) (fun b2 => ?_)
  · replace hf := ifp b2 hf
    refine Fx.run [(.iconst (-1), 1, 0, 0, .int (-1))] 15 (by decide +kernel) ?_
    show Fx q_Mo_chain 4 sh 15 [some (.ref c), some (.int v1), some (.int v2), some (.int v3), none, none, none, none] [.int (-1)] hp (some (.int res)) hp
    obtain rfl := Option.some.inj hf
    have hk : (-1) = res := hk
    subst hk
    exact Fx.iret (by decide +kernel) rfl
  · replace hf := ifn b2 hf
    refine Fx.run [(.iload_n 2, 1, 2, 0, .null)] 8 (by decide +kernel) ?_
    show Fx q_Mo_chain 4 sh 8 [some (.ref c), some (.int v1), some (.int v2), some (.int v3), none, none, none, none] [.int v2] hp (some (.int res)) hp
    replace hf := bnd hf
    obtain ⟨r3, hr3, hf⟩ := hf
    refine Fx.callS (rr := (some (.int r3))) (hp1 := hp) [.int v2] [] lk_9_94 (by decide +kernel) (t_Mo_isKey sh hp v2 r3 hr3) ⟨Nat.le_of_ble_eq_true rfl, Nat.le_of_ble_eq_true rfl⟩ rfl (Nat.le_of_ble_eq_true rfl) ?_
    show Fx q_Mo_chain 4 sh 11 [some (.ref c), some (.int v1), some (.int v2), some (.int v3), none, none, none, none] [.int r3] hp (some (.int res)) hp
    refine Fx.if_ne (5) 16 14 (by decide +kernel) (fun b4 => ?_) (fun b4 => ?_)
    · replace hf := ifn b4 hf
      refine Fx.run [(.iconst (-1), 1, 0, 0, .int (-1)), (.istore 4, 2, 4, 0, .null), (.iconst 0, 1, 0, 0, .int 0), (.istore 5, 2, 5, 0, .null)] 22 (by decide +kernel) ?_
      show Fx q_Mo_chain 4 sh 22 [some (.ref c), some (.int v1), some (.int v2), some (.int v3), some (.int (-1)), some (.int 0), none, none] [] hp (some (.int res)) hp
      have hl := t_Mo_chain_l22 sh c hS hp v1 v2 v3 res ((-1), 0) _ hf hk
      have hl : Fx q_Mo_chain 4 sh 22 [some (.ref c), some (.int v1), some (.int v2), some (.int v3), some (.int (-1)), some (.int 0), none, none] [] hp (some (.int res)) hp := hl
      exact Fx.le hl (And.intro rfl (And.intro rfl (And.intro rfl (And.intro rfl (And.intro rfl (And.intro rfl trivial))))))
    · replace hf := ifp b4 hf
      refine Fx.run [(.iconst (-1), 1, 0, 0, .int (-1))] 15 (by decide +kernel) ?_
      show Fx q_Mo_chain 4 sh 15 [some (.ref c), some (.int v1), some (.int v2), some (.int v3), none, none, none, none] [.int (-1)] hp (some (.int res)) hp
      obtain rfl := Option.some.inj hf
      have hk : (-1) = res := hk
      subst hk
      exact Fx.iret (by decide +kernel) rfl
abbrev P_Mo_composesWith_3 (sh : Shp) (c : Nat) (v1 : Int32) (v2 : Int32) (v3 : Int32) (v4 : Int32) (res : HP) : (HP × Int32) → Prop := fun s => Fx q_Mo_composesWith 2 sh 3 [some (.ref c), some (.int v1), some (.int v2), some (.int v3), some (.int v4), some (.int s.2), none] [] s.1 none res
abbrev P_Mo_composesWith_16 (sh : Shp) (c : Nat) (v1 : Int32) (v2 : Int32) (v3 : Int32) (v4 : Int32) (v5 : Int32) (res : HP) : (HP × Int32) → Prop := fun s => Fx q_Mo_composesWith 2 sh 16 [some (.ref c), some (.int v1), some (.int v2), some (.int v3), some (.int v4), some (.int v5), some (.int s.2)] [] s.1 none res
set_option maxHeartbeats 4000000 in
set_option maxRecDepth 20000 in
theorem t_Mo_composesWith_l16 (sh : Shp) (c : Nat) (hS : S_Mo sh c) (hp : HP) (v1 : Int32) (v2 : Int32) (v3 : Int32) (v4 : Int32) (v5 : Int32) (res : HP) : ∀ (s : (HP × Int32)) (t : ((HP × Int32) ⊕ HP)), f_Mo_composesWith_l16 c hp v1 v2 v3 v4 v5 s = some t → (Kel (P_Mo_composesWith_3 sh c v1 v2 v3 v4 res) (fun v => v = res)) t → P_Mo_composesWith_16 sh c v1 v2 v3 v4 v5 res s := by
  refine loop_ind (P_Mo_composesWith_16 sh c v1 v2 v3 v4 v5 res) (Kel (P_Mo_composesWith_3 sh c v1 v2 v3 v4 res) (fun v => v = res)) ?_
  intro s t hf hk
  obtain ⟨hp, v6⟩ := s
  replace hf : f_Mo_composesWith_b16 c hp v1 v2 v3 v4 v5 v6 = some t := hf
  show Fx q_Mo_composesWith 2 sh 16 [some (.ref c), some (.int v1), some (.int v2), some (.int v3), some (.int v4), some (.int v5), some (.int v6)] [] hp none res
  unfold f_Mo_composesWith_b16 at hf
  refine Fx.run [(.iload 6, 2, 6, 0, .null), (.bipush 6, 2, 0, 0, .int 6)] 20 (by decide +kernel) ?_
  show Fx q_Mo_composesWith 2 sh 20 [some (.ref c), some (.int v1), some (.int v2), some (.int v3), some (.int v4), some (.int v5), some (.int v6)] [.int 6, .int v6] hp none res
  refine Fx.icmp_ge (50) 70 23 (by decide +kernel) (fun b2 => ?_) (fun b2 => ?_)
  · replace hf := ifp b2 hf
    replace hf := mpd hf
    obtain ⟨t, hf, rfl⟩ := hf
    refine Fx.run [(.iinc 5 1, 3, 5, 0, .int 1)] 73 (by decide +kernel) ?_
    show Fx q_Mo_composesWith 2 sh 73 [some (.ref c), some (.int v1), some (.int v2), some (.int v3), some (.int v4), some (.int (v5 + 1)), some (.int v6)] [] hp none res
    refine Fx.goto (-70) 3 (by decide +kernel) ?_
    obtain rfl := Option.some.inj hf
    have hk : Fx q_Mo_composesWith 2 sh 3 [some (.ref c), some (.int v1), some (.int v2), some (.int v3), some (.int v4), some (.int (v5 + 1)), none] [] hp none res := hk
    exact Fx.le hk (And.intro rfl (And.intro rfl (And.intro rfl (And.intro rfl (And.intro rfl (And.intro rfl trivial))))))
  · replace hf := ifn b2 hf
    refine Fx.run [(.aload_n 0, 1, 0, 0, .null), (.getfield 34, 3, 9, 11, .ref 9), (.bipush 13, 2, 0, 0, .int 13), (.iload_n 1, 1, 1, 0, .null), (.iload_n 2, 1, 2, 0, .null), (.iload_n 3, 1, 3, 0, .null), (.iload 4, 2, 4, 0, .null)] 34 (by decide +kernel) ?_
    show isK sh c 9 ∧ Fx q_Mo_composesWith 2 sh 34 [some (.ref c), some (.int v1), some (.int v2), some (.int v3), some (.int v4), some (.int v5), some (.int v6)] [.int v4, .int v3, .int v2, .int v1, .int 13, .ref (c + 9)] hp none res
    refine ⟨hS.1, ?_⟩
    replace hf := bnd hf
    obtain ⟨r3, hr3, hf⟩ := hf
    refine Fx.callS (rr := (some (.int r3))) (hp1 := hp) [.int v1, .int v2, .int v3, .int v4] [.int 13, .ref (c + 9)] lk_9_62 (by decide +kernel) (t_Mo_kindOf sh hp v1 v2 v3 v4 r3 hr3) ⟨Nat.le_of_ble_eq_true rfl, Nat.le_of_ble_eq_true rfl⟩ rfl (Nat.le_of_ble_eq_true rfl) ?_
    show Fx q_Mo_composesWith 2 sh 37 [some (.ref c), some (.int v1), some (.int v2), some (.int v3), some (.int v4), some (.int v5), some (.int v6)] [.int r3, .int 13, .ref (c + 9)] hp none res
    refine Fx.run [(.imul, 1, 0, 0, .null), (.iload_n 3, 1, 3, 0, .null), (.iload 4, 2, 4, 0, .null), (.iload 5, 2, 5, 0, .null), (.iload 6, 2, 6, 0, .null)] 45 (by decide +kernel) ?_
    show Fx q_Mo_composesWith 2 sh 45 [some (.ref c), some (.int v1), some (.int v2), some (.int v3), some (.int v4), some (.int v5), some (.int v6)] [.int v6, .int v5, .int v4, .int v3, .int (13 * r3), .ref (c + 9)] hp none res
    replace hf := bnd hf
    obtain ⟨r4, hr4, hf⟩ := hf
    refine Fx.callS (rr := (some (.int r4))) (hp1 := hp) [.int v3, .int v4, .int v5, .int v6] [.int (13 * r3), .ref (c + 9)] lk_9_62 (by decide +kernel) (t_Mo_kindOf sh hp v3 v4 v5 v6 r4 hr4) ⟨Nat.le_of_ble_eq_true rfl, Nat.le_of_ble_eq_true rfl⟩ rfl (Nat.le_of_ble_eq_true rfl) ?_
    show Fx q_Mo_composesWith 2 sh 48 [some (.ref c), some (.int v1), some (.int v2), some (.int v3), some (.int v4), some (.int v5), some (.int v6)] [.int r4, .int (13 * r3), .ref (c + 9)] hp none res
    replace hf := gd hf
    obtain ⟨g5, hf⟩ := hf
    refine Fx.run [(.iadd, 1, 0, 0, .null), (.dup2, 1, 0, 0, .null), (.iaload, 1, 169, 0, .null), (.iconst 1, 1, 0, 0, .int 1), (.iload_n 1, 1, 1, 0, .null), (.iload_n 2, 1, 2, 0, .null), (.iload 5, 2, 5, 0, .null), (.iload 6, 2, 6, 0, .null)] 58 (by decide +kernel) ?_
    show (isA sh (c + 9) 10 169 ∧ inb ((13 * r3) + r4) 169) ∧ Fx q_Mo_composesWith 2 sh 58 [some (.ref c), some (.int v1), some (.int v2), some (.int v3), some (.int v4), some (.int v5), some (.int v6)] [.int v6, .int v5, .int v2, .int v1, .int 1, .int (hp.1 (c + 9) (ix ((13 * r3) + r4))), .int ((13 * r3) + r4), .ref (c + 9)] hp none res
    refine ⟨⟨hS.2.2.2.2.2.2.2.2.2.1, g5⟩, ?_⟩
    replace hf := bnd hf
    obtain ⟨r6, hr6, hf⟩ := hf
    refine Fx.callS (rr := (some (.int r6))) (hp1 := hp) [.int v1, .int v2, .int v5, .int v6] [.int 1, .int (hp.1 (c + 9) (ix ((13 * r3) + r4))), .int ((13 * r3) + r4), .ref (c + 9)] lk_9_62 (by decide +kernel) (t_Mo_kindOf sh hp v1 v2 v5 v6 r6 hr6) ⟨Nat.le_of_ble_eq_true rfl, Nat.le_of_ble_eq_true rfl⟩ rfl (Nat.le_of_ble_eq_true rfl) ?_
    show Fx q_Mo_composesWith 2 sh 61 [some (.ref c), some (.int v1), some (.int v2), some (.int v3), some (.int v4), some (.int v5), some (.int v6)] [.int r6, .int 1, .int (hp.1 (c + 9) (ix ((13 * r3) + r4))), .int ((13 * r3) + r4), .ref (c + 9)] hp none res
    replace hf := gd hf
    obtain ⟨g7, hf⟩ := hf
    refine Fx.run [(.ishl, 1, 0, 0, .null), (.ior, 1, 0, 0, .null), (.iastore, 1, 169, 0, .null), (.iinc 6 1, 3, 6, 0, .int 1)] 67 (by decide +kernel) ?_
    show (isA sh (c + 9) 10 169 ∧ inb ((13 * r3) + r4) 169) ∧ Fx q_Mo_composesWith 2 sh 67 [some (.ref c), some (.int v1), some (.int v2), some (.int v3), some (.int v4), some (.int v5), some (.int (v6 + 1))] [] (upI hp (c + 9) (ix ((13 * r3) + r4)) ((hp.1 (c + 9) (ix ((13 * r3) + r4))) ||| (1 <<< (r6 &&& 31)))) none res
    refine ⟨⟨hS.2.2.2.2.2.2.2.2.2.1, g7⟩, ?_⟩
    refine Fx.goto (-51) 16 (by decide +kernel) ?_
    obtain rfl := Option.some.inj hf
    have hk : Fx q_Mo_composesWith 2 sh 16 [some (.ref c), some (.int v1), some (.int v2), some (.int v3), some (.int v4), some (.int v5), some (.int (v6 + 1))] [] (upI hp (c + 9) (ix ((13 * r3) + r4)) ((hp.1 (c + 9) (ix ((13 * r3) + r4))) ||| (1 <<< (r6 &&& 31)))) none res := hk
    exact Fx.le hk (And.intro rfl (And.intro rfl (And.intro rfl (And.intro rfl (And.intro rfl (And.intro rfl (And.intro rfl trivial)))))))
set_option maxHeartbeats 4000000 in
set_option maxRecDepth 20000 in
theorem t_Mo_composesWith_l3 (sh : Shp) (c : Nat) (hS : S_Mo sh c) (hp : HP) (v1 : Int32) (v2 : Int32) (v3 : Int32) (v4 : Int32) (res : HP) : ∀ (s : (HP × Int32)) (t : HP), f_Mo_composesWith_l3 c hp v1 v2 v3 v4 s = some t → (fun v => v = res) t → P_Mo_composesWith_3 sh c v1 v2 v3 v4 res s := by
  refine loop_ind (P_Mo_composesWith_3 sh c v1 v2 v3 v4 res) (fun v => v = res) ?_
  intro s t hf hk
  obtain ⟨hp, v5⟩ := s
  replace hf : f_Mo_composesWith_b3 c hp v1 v2 v3 v4 v5 = some t := hf
  show Fx q_Mo_composesWith 2 sh 3 [some (.ref c), some (.int v1), some (.int v2), some (.int v3), some (.int v4), some (.int v5), none] [] hp none res
  unfold f_Mo_composesWith_b3 at hf
  refine Fx.run [(.iload 5, 2, 5, 0, .null), (.bipush 6, 2, 0, 0, .int 6)] 7 (by decide +kernel) ?_
  show Fx q_Mo_composesWith 2 sh 7 [some (.ref c), some (.int v1), some (.int v2), some (.int v3), some (.int v4), some (.int v5), none] [.int 6, .int v5] hp none res
  refine Fx.icmp_ge (69) 76 10 (by decide +kernel) (fun b1 => ?_) (fun b1 => ?_)
  · replace hf := ifp b1 hf
    replace hf := mpd hf
    obtain ⟨t, hf, rfl⟩ := hf
    obtain rfl := Option.some.inj hf
    have hk : hp = res := hk
    subst hk
    exact Fx.vret (by decide +kernel) rfl
  · replace hf := ifn b1 hf
    refine Fx.run [(.iload 5, 2, 5, 0, .null), (.iconst 1, 1, 0, 0, .int 1), (.iadd, 1, 0, 0, .null), (.istore 6, 2, 6, 0, .null)] 16 (by decide +kernel) ?_
    show Fx q_Mo_composesWith 2 sh 16 [some (.ref c), some (.int v1), some (.int v2), some (.int v3), some (.int v4), some (.int v5), some (.int (v5 + 1))] [] hp none res
    have hl := t_Mo_composesWith_l16 sh c hS hp v1 v2 v3 v4 v5 res (hp, (v5 + 1)) _ hf hk
    have hl : Fx q_Mo_composesWith 2 sh 16 [some (.ref c), some (.int v1), some (.int v2), some (.int v3), some (.int v4), some (.int v5), some (.int (v5 + 1))] [] hp none res := hl
    exact Fx.le hl (And.intro rfl (And.intro rfl (And.intro rfl (And.intro rfl (And.intro rfl (And.intro rfl (And.intro rfl trivial)))))))
set_option maxHeartbeats 4000000 in
set_option maxRecDepth 20000 in
theorem t_Mo_composesWith (sh : Shp) (c : Nat) (hS : S_Mo sh c) (hp : HP) (v1 : Int32) (v2 : Int32) (v3 : Int32) (v4 : Int32) (res : HP) (hf : f_Mo_composesWith c hp v1 v2 v3 v4 = some res) : Ex 2 q_Mo_composesWith sh [.ref c, .int v1, .int v2, .int v3, .int v4] hp none res := by
  refine Ex.of [some (.ref c), some (.int v1), some (.int v2), some (.int v3), some (.int v4), none, none] rfl (Nat.le_of_ble_eq_true rfl) (by decide +kernel) rfl ?_
  obtain ⟨t, hk⟩ : ∃ t, t = res := ⟨res, rfl⟩
  rw [← hk] at hf
  unfold f_Mo_composesWith at hf
  refine Fx.run [(.iconst 0, 1, 0, 0, .int 0), (.istore 5, 2, 5, 0, .null)] 3 (by decide +kernel) ?_
  show Fx q_Mo_composesWith 2 sh 3 [some (.ref c), some (.int v1), some (.int v2), some (.int v3), some (.int v4), some (.int 0), none] [] hp none res
  have hl := t_Mo_composesWith_l3 sh c hS hp v1 v2 v3 v4 res (hp, 0) _ hf hk
  have hl : Fx q_Mo_composesWith 2 sh 3 [some (.ref c), some (.int v1), some (.int v2), some (.int v3), some (.int v4), some (.int 0), none] [] hp none res := hl
  exact Fx.le hl (And.intro rfl (And.intro rfl (And.intro rfl (And.intro rfl (And.intro rfl (And.intro rfl trivial))))))
abbrev P_Mo_composes_7 (sh : Shp) (c : Nat)  (res : HP) : (HP × Int32) → Prop := fun s => Fx q_Mo_composes 3 sh 7 [some (.ref c), some (.int s.2), none, none, none] [] s.1 none res
abbrev P_Mo_composes_17 (sh : Shp) (c : Nat) (v1 : Int32) (res : HP) : (HP × Int32) → Prop := fun s => Fx q_Mo_composes 3 sh 17 [some (.ref c), some (.int v1), some (.int s.2), none, none] [] s.1 none res
abbrev P_Mo_composes_25 (sh : Shp) (c : Nat) (v1 : Int32) (v2 : Int32) (res : HP) : (HP × Int32) → Prop := fun s => Fx q_Mo_composes 3 sh 25 [some (.ref c), some (.int v1), some (.int v2), some (.int s.2), none] [] s.1 none res
abbrev P_Mo_composes_36 (sh : Shp) (c : Nat) (v1 : Int32) (v2 : Int32) (v3 : Int32) (res : HP) : (HP × Int32) → Prop := fun s => Fx q_Mo_composes 3 sh 36 [some (.ref c), some (.int v1), some (.int v2), some (.int v3), some (.int s.2)] [] s.1 none res
set_option maxHeartbeats 4000000 in
set_option maxRecDepth 20000 in
theorem t_Mo_composes_l36 (sh : Shp) (c : Nat) (hS : S_Mo sh c) (hp : HP) (v1 : Int32) (v2 : Int32) (v3 : Int32) (res : HP) : ∀ (s : (HP × Int32)) (t : ((HP × Int32) ⊕ ((HP × Int32) ⊕ ((HP × Int32) ⊕ HP)))), f_Mo_composes_l36 c hp v1 v2 v3 s = some t → (Kel (P_Mo_composes_25 sh c v1 v2 res) (Kel (P_Mo_composes_17 sh c v1 res) (Kel (P_Mo_composes_7 sh c  res) (fun v => v = res)))) t → P_Mo_composes_36 sh c v1 v2 v3 res s := by
  refine loop_ind (P_Mo_composes_36 sh c v1 v2 v3 res) (Kel (P_Mo_composes_25 sh c v1 v2 res) (Kel (P_Mo_composes_17 sh c v1 res) (Kel (P_Mo_composes_7 sh c  res) (fun v => v = res)))) ?_
  intro s t hf hk
  obtain ⟨hp, v4⟩ := s
  replace hf : f_Mo_composes_b36 c hp v1 v2 v3 v4 = some t := hf
  show Fx q_Mo_composes 3 sh 36 [some (.ref c), some (.int v1), some (.int v2), some (.int v3), some (.int v4)] [] hp none res
  unfold f_Mo_composes_b36 at hf
  refine Fx.run [(.iload 4, 2, 4, 0, .null), (.bipush 6, 2, 0, 0, .int 6)] 40 (by decide +kernel) ?_
  show Fx q_Mo_composes 3 sh 40 [some (.ref c), some (.int v1), some (.int v2), some (.int v3), some (.int v4)] [.int 6, .int v4] hp none res
  refine Fx.icmp_ge (18) 58 43 (by decide +kernel) (fun b4 => ?_) (fun b4 => ?_)
  · replace hf := ifp b4 hf
    replace hf := mpd hf
    obtain ⟨t, hf, rfl⟩ := hf
    refine Fx.run [(.iinc 3 1, 3, 3, 0, .int 1)] 61 (by decide +kernel) ?_
    show Fx q_Mo_composes 3 sh 61 [some (.ref c), some (.int v1), some (.int v2), some (.int (v3 + 1)), some (.int v4)] [] hp none res
    refine Fx.goto (-36) 25 (by decide +kernel) ?_
    obtain rfl := Option.some.inj hf
    have hk : Fx q_Mo_composes 3 sh 25 [some (.ref c), some (.int v1), some (.int v2), some (.int (v3 + 1)), none] [] hp none res := hk
    exact Fx.le hk (And.intro rfl (And.intro rfl (And.intro rfl (And.intro rfl trivial))))
  · replace hf := ifn b4 hf
    refine Fx.run [(.aload_n 0, 1, 0, 0, .null), (.iload_n 1, 1, 1, 0, .null), (.iload_n 2, 1, 2, 0, .null), (.iload_n 3, 1, 3, 0, .null), (.iload 4, 2, 4, 0, .null)] 49 (by decide +kernel) ?_
    show Fx q_Mo_composes 3 sh 49 [some (.ref c), some (.int v1), some (.int v2), some (.int v3), some (.int v4)] [.int v4, .int v3, .int v2, .int v1, .ref c] hp none res
    replace hf := bnd hf
    obtain ⟨h6, hr5, hf⟩ := hf
    refine Fx.callV (rr := none) (hp1 := h6) [.int v1, .int v2, .int v3, .int v4] [] lk_9_261 (by decide +kernel) (t_Mo_composesWith sh c (hS) hp v1 v2 v3 v4 h6 hr5) ⟨Nat.le_of_ble_eq_true rfl, Nat.le_of_ble_eq_true rfl⟩ (hS).1 (by decide) rfl (Nat.le_of_ble_eq_true rfl) ?_
    show Fx q_Mo_composes 3 sh 52 [some (.ref c), some (.int v1), some (.int v2), some (.int v3), some (.int v4)] [] h6 none res
    refine Fx.run [(.iinc 4 1, 3, 4, 0, .int 1)] 55 (by decide +kernel) ?_
    show Fx q_Mo_composes 3 sh 55 [some (.ref c), some (.int v1), some (.int v2), some (.int v3), some (.int (v4 + 1))] [] h6 none res
    refine Fx.goto (-19) 36 (by decide +kernel) ?_
    obtain rfl := Option.some.inj hf
    have hk : Fx q_Mo_composes 3 sh 36 [some (.ref c), some (.int v1), some (.int v2), some (.int v3), some (.int (v4 + 1))] [] h6 none res := hk
    exact Fx.le hk (And.intro rfl (And.intro rfl (And.intro rfl (And.intro rfl (And.intro rfl trivial)))))
set_option maxHeartbeats 4000000 in
set_option maxRecDepth 20000 in
theorem t_Mo_composes_l25 (sh : Shp) (c : Nat) (hS : S_Mo sh c) (hp : HP) (v1 : Int32) (v2 : Int32) (res : HP) : ∀ (s : (HP × Int32)) (t : ((HP × Int32) ⊕ ((HP × Int32) ⊕ HP))), f_Mo_composes_l25 c hp v1 v2 s = some t → (Kel (P_Mo_composes_17 sh c v1 res) (Kel (P_Mo_composes_7 sh c  res) (fun v => v = res))) t → P_Mo_composes_25 sh c v1 v2 res s := by
  refine loop_ind (P_Mo_composes_25 sh c v1 v2 res) (Kel (P_Mo_composes_17 sh c v1 res) (Kel (P_Mo_composes_7 sh c  res) (fun v => v = res))) ?_
  intro s t hf hk
  obtain ⟨hp, v3⟩ := s
  replace hf : f_Mo_composes_b25 c hp v1 v2 v3 = some t := hf
  show Fx q_Mo_composes 3 sh 25 [some (.ref c), some (.int v1), some (.int v2), some (.int v3), none] [] hp none res
  unfold f_Mo_composes_b25 at hf
  refine Fx.run [(.iload_n 3, 1, 3, 0, .null), (.bipush 6, 2, 0, 0, .int 6)] 28 (by decide +kernel) ?_
  show Fx q_Mo_composes 3 sh 28 [some (.ref c), some (.int v1), some (.int v2), some (.int v3), none] [.int 6, .int v3] hp none res
  refine Fx.icmp_ge (36) 64 31 (by decide +kernel) (fun b3 => ?_) (fun b3 => ?_)
  · replace hf := ifp b3 hf
    replace hf := mpd hf
    obtain ⟨t, hf, rfl⟩ := hf
    refine Fx.run [(.iinc 2 1, 3, 2, 0, .int 1)] 67 (by decide +kernel) ?_
    show Fx q_Mo_composes 3 sh 67 [some (.ref c), some (.int v1), some (.int (v2 + 1)), some (.int v3), none] [] hp none res
    refine Fx.goto (-50) 17 (by decide +kernel) ?_
    obtain rfl := Option.some.inj hf
    have hk : Fx q_Mo_composes 3 sh 17 [some (.ref c), some (.int v1), some (.int (v2 + 1)), none, none] [] hp none res := hk
    exact Fx.le hk (And.intro rfl (And.intro rfl (And.intro rfl trivial)))
  · replace hf := ifn b3 hf
    refine Fx.run [(.iload_n 3, 1, 3, 0, .null), (.iconst 1, 1, 0, 0, .int 1), (.iadd, 1, 0, 0, .null), (.istore 4, 2, 4, 0, .null)] 36 (by decide +kernel) ?_
    show Fx q_Mo_composes 3 sh 36 [some (.ref c), some (.int v1), some (.int v2), some (.int v3), some (.int (v3 + 1))] [] hp none res
    have hl := t_Mo_composes_l36 sh c hS hp v1 v2 v3 res (hp, (v3 + 1)) _ hf hk
    have hl : Fx q_Mo_composes 3 sh 36 [some (.ref c), some (.int v1), some (.int v2), some (.int v3), some (.int (v3 + 1))] [] hp none res := hl
    exact Fx.le hl (And.intro rfl (And.intro rfl (And.intro rfl (And.intro rfl (And.intro rfl trivial)))))
set_option maxHeartbeats 4000000 in
set_option maxRecDepth 20000 in
theorem t_Mo_composes_l17 (sh : Shp) (c : Nat) (hS : S_Mo sh c) (hp : HP) (v1 : Int32) (res : HP) : ∀ (s : (HP × Int32)) (t : ((HP × Int32) ⊕ HP)), f_Mo_composes_l17 c hp v1 s = some t → (Kel (P_Mo_composes_7 sh c  res) (fun v => v = res)) t → P_Mo_composes_17 sh c v1 res s := by
  refine loop_ind (P_Mo_composes_17 sh c v1 res) (Kel (P_Mo_composes_7 sh c  res) (fun v => v = res)) ?_
  intro s t hf hk
  obtain ⟨hp, v2⟩ := s
  replace hf : f_Mo_composes_b17 c hp v1 v2 = some t := hf
  show Fx q_Mo_composes 3 sh 17 [some (.ref c), some (.int v1), some (.int v2), none, none] [] hp none res
  unfold f_Mo_composes_b17 at hf
  refine Fx.run [(.iload_n 2, 1, 2, 0, .null), (.bipush 6, 2, 0, 0, .int 6)] 20 (by decide +kernel) ?_
  show Fx q_Mo_composes 3 sh 20 [some (.ref c), some (.int v1), some (.int v2), none, none] [.int 6, .int v2] hp none res
  refine Fx.icmp_ge (50) 70 23 (by decide +kernel) (fun b2 => ?_) (fun b2 => ?_)
  · replace hf := ifp b2 hf
    replace hf := mpd hf
    obtain ⟨t, hf, rfl⟩ := hf
    refine Fx.run [(.iinc 1 1, 3, 1, 0, .int 1)] 73 (by decide +kernel) ?_
    show Fx q_Mo_composes 3 sh 73 [some (.ref c), some (.int (v1 + 1)), some (.int v2), none, none] [] hp none res
    refine Fx.goto (-66) 7 (by decide +kernel) ?_
    obtain rfl := Option.some.inj hf
    have hk : Fx q_Mo_composes 3 sh 7 [some (.ref c), some (.int (v1 + 1)), none, none, none] [] hp none res := hk
    exact Fx.le hk (And.intro rfl (And.intro rfl trivial))
  · replace hf := ifn b2 hf
    refine Fx.run [(.iconst 0, 1, 0, 0, .int 0), (.istore_n 3, 1, 3, 0, .null)] 25 (by decide +kernel) ?_
    show Fx q_Mo_composes 3 sh 25 [some (.ref c), some (.int v1), some (.int v2), some (.int 0), none] [] hp none res
    have hl := t_Mo_composes_l25 sh c hS hp v1 v2 res (hp, 0) _ hf hk
    have hl : Fx q_Mo_composes 3 sh 25 [some (.ref c), some (.int v1), some (.int v2), some (.int 0), none] [] hp none res := hl
    exact Fx.le hl (And.intro rfl (And.intro rfl (And.intro rfl (And.intro rfl trivial))))
set_option maxHeartbeats 4000000 in
set_option maxRecDepth 20000 in
theorem t_Mo_composes_l7 (sh : Shp) (c : Nat) (hS : S_Mo sh c) (hp : HP)  (res : HP) : ∀ (s : (HP × Int32)) (t : HP), f_Mo_composes_l7 c hp  s = some t → (fun v => v = res) t → P_Mo_composes_7 sh c  res s := by
  refine loop_ind (P_Mo_composes_7 sh c  res) (fun v => v = res) ?_
  intro s t hf hk
  obtain ⟨hp, v1⟩ := s
  replace hf : f_Mo_composes_b7 c hp  v1 = some t := hf
  show Fx q_Mo_composes 3 sh 7 [some (.ref c), some (.int v1), none, none, none] [] hp none res
  unfold f_Mo_composes_b7 at hf
  refine Fx.run [(.iload_n 1, 1, 1, 0, .null), (.bipush 6, 2, 0, 0, .int 6)] 10 (by decide +kernel) ?_
  show Fx q_Mo_composes 3 sh 10 [some (.ref c), some (.int v1), none, none, none] [.int 6, .int v1] hp none res
  refine Fx.icmp_ge (66) 76 13 (by decide +kernel) (fun b1 => ?_) (fun b1 => ?_)
  · replace hf := ifp b1 hf
    replace hf := mpd hf
    obtain ⟨t, hf, rfl⟩ := hf
    obtain rfl := Option.some.inj hf
    have hk : hp = res := hk
    subst hk
    exact Fx.vret (by decide +kernel) rfl
  · replace hf := ifn b1 hf
    refine Fx.run [(.iload_n 1, 1, 1, 0, .null), (.iconst 1, 1, 0, 0, .int 1), (.iadd, 1, 0, 0, .null), (.istore_n 2, 1, 2, 0, .null)] 17 (by decide +kernel) ?_
    show Fx q_Mo_composes 3 sh 17 [some (.ref c), some (.int v1), some (.int (v1 + 1)), none, none] [] hp none res
    have hl := t_Mo_composes_l17 sh c hS hp v1 res (hp, (v1 + 1)) _ hf hk
    have hl : Fx q_Mo_composes 3 sh 17 [some (.ref c), some (.int v1), some (.int (v1 + 1)), none, none] [] hp none res := hl
    exact Fx.le hl (And.intro rfl (And.intro rfl (And.intro rfl trivial)))
set_option maxHeartbeats 4000000 in
set_option maxRecDepth 20000 in
theorem t_Mo_composes (sh : Shp) (c : Nat) (hS : S_Mo sh c) (hp : HP)  (res : HP) (hf : f_Mo_composes c hp  = some res) : Ex 3 q_Mo_composes sh [.ref c] hp none res := by
  refine Ex.of [some (.ref c), none, none, none, none] rfl (Nat.le_of_ble_eq_true rfl) (by decide +kernel) rfl ?_
  obtain ⟨t, hk⟩ : ∃ t, t = res := ⟨res, rfl⟩
  rw [← hk] at hf
  unfold f_Mo_composes at hf
  refine Fx.run [(.aload_n 0, 1, 0, 0, .null), (.iconst 1, 1, 0, 0, .int 1), (.putfield 257, 3, 9, 12, .int 1), (.iconst 0, 1, 0, 0, .int 0), (.istore_n 1, 1, 1, 0, .null)] 7 (by decide +kernel) ?_
  show isK sh c 9 ∧ ((1 : Int32) = 0 ∨ (1 : Int32) = 1) ∧ Fx q_Mo_composes 3 sh 7 [some (.ref c), some (.int 0), none, none, none] [] (upI hp c 12 1) none res
  refine ⟨hS.1, (Or.inr rfl), ?_⟩
  have hl := t_Mo_composes_l7 sh c hS (upI hp c 12 1)  res ((upI hp c 12 1), 0) _ hf hk
  have hl : Fx q_Mo_composes 3 sh 7 [some (.ref c), some (.int 0), none, none, none] [] (upI hp c 12 1) none res := hl
  exact Fx.le hl (And.intro rfl (And.intro rfl trivial))
abbrev P_Mo_composedOf_16 (sh : Shp) (c : Nat) (hp : HP) (v1 : Int32) (v2 : Int32) (res : (HP × Int32)) : (Int32 × Int32) → Prop := fun s => Fx q_Mo_composedOf 4 sh 16 [some (.ref c), some (.int v1), some (.int v2), some (.int s.1), some (.int s.2), none] [] hp (some (.int res.2)) res.1
abbrev P_Mo_composedOf_26 (sh : Shp) (c : Nat) (hp : HP) (v1 : Int32) (v2 : Int32) (v4 : Int32) (res : (HP × Int32)) : (Int32 × Int32) → Prop := fun s => Fx q_Mo_composedOf 4 sh 26 [some (.ref c), some (.int v1), some (.int v2), some (.int s.1), some (.int v4), some (.int s.2)] [] hp (some (.int res.2)) res.1
set_option maxHeartbeats 4000000 in
set_option maxRecDepth 20000 in
theorem t_Mo_composedOf_l26 (sh : Shp) (c : Nat) (hS : S_Mo sh c) (hp : HP) (v1 : Int32) (v2 : Int32) (v4 : Int32) (res : (HP × Int32)) : ∀ (s : (Int32 × Int32)) (t : ((Int32 × Int32) ⊕ (HP × Int32))), f_Mo_composedOf_l26 c hp v1 v2 v4 s = some t → (Kel (P_Mo_composedOf_16 sh c hp v1 v2 res) (fun v => v = res)) t → P_Mo_composedOf_26 sh c hp v1 v2 v4 res s := by
  refine loop_ind (P_Mo_composedOf_26 sh c hp v1 v2 v4 res) (Kel (P_Mo_composedOf_16 sh c hp v1 v2 res) (fun v => v = res)) ?_
  intro s t hf hk
  obtain ⟨v3, v5⟩ := s
  replace hf : f_Mo_composedOf_b26 c hp v1 v2 v4 v3 v5 = some t := hf
  show Fx q_Mo_composedOf 4 sh 26 [some (.ref c), some (.int v1), some (.int v2), some (.int v3), some (.int v4), some (.int v5)] [] hp (some (.int res.2)) res.1
  unfold f_Mo_composedOf_b26 at hf
  refine Fx.run [(.iload 5, 2, 5, 0, .null), (.bipush 13, 2, 0, 0, .int 13)] 30 (by decide +kernel) ?_
  show Fx q_Mo_composedOf 4 sh 30 [some (.ref c), some (.int v1), some (.int v2), some (.int v3), some (.int v4), some (.int v5)] [.int 13, .int v5] hp (some (.int res.2)) res.1
  refine Fx.icmp_ge (43) 73 33 (by decide +kernel) (fun b3 => ?_) (fun b3 => ?_)
  · replace hf := ifp b3 hf
    replace hf := mpd hf
    obtain ⟨t, hf, rfl⟩ := hf
    refine Fx.run [(.iinc 4 1, 3, 4, 0, .int 1)] 76 (by decide +kernel) ?_
    show Fx q_Mo_composedOf 4 sh 76 [some (.ref c), some (.int v1), some (.int v2), some (.int v3), some (.int (v4 + 1)), some (.int v5)] [] hp (some (.int res.2)) res.1
    refine Fx.goto (-60) 16 (by decide +kernel) ?_
    obtain rfl := Option.some.inj hf
    have hk : Fx q_Mo_composedOf 4 sh 16 [some (.ref c), some (.int v1), some (.int v2), some (.int v3), some (.int (v4 + 1)), none] [] hp (some (.int res.2)) res.1 := hk
    exact Fx.le hk (And.intro rfl (And.intro rfl (And.intro rfl (And.intro rfl (And.intro rfl trivial)))))
  · replace hf := ifn b3 hf
    refine Fx.run [(.iload_n 1, 1, 1, 0, .null), (.iload 4, 2, 4, 0, .null)] 36 (by decide +kernel) ?_
    show Fx q_Mo_composedOf 4 sh 36 [some (.ref c), some (.int v1), some (.int v2), some (.int v3), some (.int v4), some (.int v5)] [.int v4, .int v1] hp (some (.int res.2)) res.1
    replace hf := bnd hf
    obtain ⟨r4, hr4, hf⟩ := hf
    refine Fx.callS (rr := (some (.int r4))) (hp1 := hp) [.int v1, .int v4] [] lk_9_73 (by decide +kernel) (t_Mo_has sh hp v1 v4 r4 hr4) ⟨Nat.le_of_ble_eq_true rfl, Nat.le_of_ble_eq_true rfl⟩ rfl (Nat.le_of_ble_eq_true rfl) ?_
    show Fx q_Mo_composedOf 4 sh 39 [some (.ref c), some (.int v1), some (.int v2), some (.int v3), some (.int v4), some (.int v5)] [.int r4] hp (some (.int res.2)) res.1
    refine Fx.if_eq (28) 67 42 (by decide +kernel) (fun b5 => ?_) (fun b5 => ?_)
    · replace hf := ifp b5 hf
      refine Fx.run [(.iinc 5 1, 3, 5, 0, .int 1)] 70 (by decide +kernel) ?_
      show Fx q_Mo_composedOf 4 sh 70 [some (.ref c), some (.int v1), some (.int v2), some (.int v3), some (.int v4), some (.int (v5 + 1))] [] hp (some (.int res.2)) res.1
      refine Fx.goto (-44) 26 (by decide +kernel) ?_
      obtain rfl := Option.some.inj hf
      have hk : Fx q_Mo_composedOf 4 sh 26 [some (.ref c), some (.int v1), some (.int v2), some (.int v3), some (.int v4), some (.int (v5 + 1))] [] hp (some (.int res.2)) res.1 := hk
      exact Fx.le hk (And.intro rfl (And.intro rfl (And.intro rfl (And.intro rfl (And.intro rfl (And.intro rfl trivial))))))
    · replace hf := ifn b5 hf
      refine Fx.run [(.iload_n 2, 1, 2, 0, .null), (.iload 5, 2, 5, 0, .null)] 45 (by decide +kernel) ?_
      show Fx q_Mo_composedOf 4 sh 45 [some (.ref c), some (.int v1), some (.int v2), some (.int v3), some (.int v4), some (.int v5)] [.int v5, .int v2] hp (some (.int res.2)) res.1
      replace hf := bnd hf
      obtain ⟨r6, hr6, hf⟩ := hf
      refine Fx.callS (rr := (some (.int r6))) (hp1 := hp) [.int v2, .int v5] [] lk_9_73 (by decide +kernel) (t_Mo_has sh hp v2 v5 r6 hr6) ⟨Nat.le_of_ble_eq_true rfl, Nat.le_of_ble_eq_true rfl⟩ rfl (Nat.le_of_ble_eq_true rfl) ?_
      show Fx q_Mo_composedOf 4 sh 48 [some (.ref c), some (.int v1), some (.int v2), some (.int v3), some (.int v4), some (.int v5)] [.int r6] hp (some (.int res.2)) res.1
      refine Fx.if_eq (19) 67 51 (by decide +kernel) (fun b7 => ?_) (fun b7 => ?_)
      · replace hf := ifp b7 hf
        refine Fx.run [(.iinc 5 1, 3, 5, 0, .int 1)] 70 (by decide +kernel) ?_
        show Fx q_Mo_composedOf 4 sh 70 [some (.ref c), some (.int v1), some (.int v2), some (.int v3), some (.int v4), some (.int (v5 + 1))] [] hp (some (.int res.2)) res.1
        refine Fx.goto (-44) 26 (by decide +kernel) ?_
        obtain rfl := Option.some.inj hf
        have hk : Fx q_Mo_composedOf 4 sh 26 [some (.ref c), some (.int v1), some (.int v2), some (.int v3), some (.int v4), some (.int (v5 + 1))] [] hp (some (.int res.2)) res.1 := hk
        exact Fx.le hk (And.intro rfl (And.intro rfl (And.intro rfl (And.intro rfl (And.intro rfl (And.intro rfl trivial))))))
      · replace hf := ifn b7 hf
        replace hf := gd hf
        obtain ⟨g8, hf⟩ := hf
        refine Fx.run [(.iload_n 3, 1, 3, 0, .null), (.aload_n 0, 1, 0, 0, .null), (.getfield 34, 3, 9, 11, .ref 9), (.bipush 13, 2, 0, 0, .int 13), (.iload 4, 2, 4, 0, .null), (.imul, 1, 0, 0, .null), (.iload 5, 2, 5, 0, .null), (.iadd, 1, 0, 0, .null), (.iaload, 1, 169, 0, .null), (.ior, 1, 0, 0, .null), (.istore_n 3, 1, 3, 0, .null), (.iinc 5 1, 3, 5, 0, .int 1)] 70 (by decide +kernel) ?_
        show isK sh c 9 ∧ (isA sh (c + 9) 10 169 ∧ inb ((13 * v4) + v5) 169) ∧ Fx q_Mo_composedOf 4 sh 70 [some (.ref c), some (.int v1), some (.int v2), some (.int (v3 ||| (hp.1 (c + 9) (ix ((13 * v4) + v5))))), some (.int v4), some (.int (v5 + 1))] [] hp (some (.int res.2)) res.1
        refine ⟨hS.1, ⟨hS.2.2.2.2.2.2.2.2.2.1, g8⟩, ?_⟩
        refine Fx.goto (-44) 26 (by decide +kernel) ?_
        obtain rfl := Option.some.inj hf
        have hk : Fx q_Mo_composedOf 4 sh 26 [some (.ref c), some (.int v1), some (.int v2), some (.int (v3 ||| (hp.1 (c + 9) (ix ((13 * v4) + v5))))), some (.int v4), some (.int (v5 + 1))] [] hp (some (.int res.2)) res.1 := hk
        exact Fx.le hk (And.intro rfl (And.intro rfl (And.intro rfl (And.intro rfl (And.intro rfl (And.intro rfl trivial))))))
set_option maxHeartbeats 4000000 in
set_option maxRecDepth 20000 in
theorem t_Mo_composedOf_l16 (sh : Shp) (c : Nat) (hS : S_Mo sh c) (hp : HP) (v1 : Int32) (v2 : Int32) (res : (HP × Int32)) : ∀ (s : (Int32 × Int32)) (t : (HP × Int32)), f_Mo_composedOf_l16 c hp v1 v2 s = some t → (fun v => v = res) t → P_Mo_composedOf_16 sh c hp v1 v2 res s := by
  refine loop_ind (P_Mo_composedOf_16 sh c hp v1 v2 res) (fun v => v = res) ?_
  intro s t hf hk
  obtain ⟨v3, v4⟩ := s
  replace hf : f_Mo_composedOf_b16 c hp v1 v2 v3 v4 = some t := hf
  show Fx q_Mo_composedOf 4 sh 16 [some (.ref c), some (.int v1), some (.int v2), some (.int v3), some (.int v4), none] [] hp (some (.int res.2)) res.1
  unfold f_Mo_composedOf_b16 at hf
  refine Fx.run [(.iload 4, 2, 4, 0, .null), (.bipush 13, 2, 0, 0, .int 13)] 20 (by decide +kernel) ?_
  show Fx q_Mo_composedOf 4 sh 20 [some (.ref c), some (.int v1), some (.int v2), some (.int v3), some (.int v4), none] [.int 13, .int v4] hp (some (.int res.2)) res.1
  refine Fx.icmp_ge (59) 79 23 (by decide +kernel) (fun b2 => ?_) (fun b2 => ?_)
  · replace hf := ifp b2 hf
    replace hf := mpd hf
    obtain ⟨t, hf, rfl⟩ := hf
    refine Fx.run [(.iload_n 3, 1, 3, 0, .null)] 80 (by decide +kernel) ?_
    show Fx q_Mo_composedOf 4 sh 80 [some (.ref c), some (.int v1), some (.int v2), some (.int v3), some (.int v4), none] [.int v3] hp (some (.int res.2)) res.1
    obtain rfl := Option.some.inj hf
    have hk : (hp, v3) = res := hk
    subst hk
    exact Fx.iret (by decide +kernel) rfl
  · replace hf := ifn b2 hf
    refine Fx.run [(.iconst 0, 1, 0, 0, .int 0), (.istore 5, 2, 5, 0, .null)] 26 (by decide +kernel) ?_
    show Fx q_Mo_composedOf 4 sh 26 [some (.ref c), some (.int v1), some (.int v2), some (.int v3), some (.int v4), some (.int 0)] [] hp (some (.int res.2)) res.1
    have hl := t_Mo_composedOf_l26 sh c hS hp v1 v2 v4 res (v3, 0) _ hf hk
    have hl : Fx q_Mo_composedOf 4 sh 26 [some (.ref c), some (.int v1), some (.int v2), some (.int v3), some (.int v4), some (.int 0)] [] hp (some (.int res.2)) res.1 := hl
    exact Fx.le hl (And.intro rfl (And.intro rfl (And.intro rfl (And.intro rfl (And.intro rfl (And.intro rfl trivial))))))
set_option maxHeartbeats 4000000 in
set_option maxRecDepth 20000 in
theorem t_Mo_composedOf (sh : Shp) (c : Nat) (hS : S_Mo sh c) (hp : HP) (v1 : Int32) (v2 : Int32) (res : (HP × Int32)) (hf : f_Mo_composedOf c hp v1 v2 = some res) : Ex 4 q_Mo_composedOf sh [.ref c, .int v1, .int v2] hp (some (.int res.2)) res.1 := by
  refine Ex.of [some (.ref c), some (.int v1), some (.int v2), none, none, none] rfl (Nat.le_of_ble_eq_true rfl) (by decide +kernel) rfl ?_
  obtain ⟨t, hk⟩ : ∃ t, t = res := ⟨res, rfl⟩
  rw [← hk] at hf
  unfold f_Mo_composedOf at hf
  refine Fx.run [(.aload_n 0, 1, 0, 0, .null), (.getfield 257, 3, 9, 12, .null)] 4 (by decide +kernel) ?_
  show isK sh c 9 ∧ Fx q_Mo_composedOf 4 sh 4 [some (.ref c), some (.int v1), some (.int v2), none, none, none] [.int (hp.1 c 12)] hp (some (.int res.2)) res.1
  refine ⟨hS.1, ?_⟩
  refine Fx.if_ne (7) 11 7 (by decide +kernel) (fun b1 => ?_) (fun b1 => ?_)
  · replace hf := ifn b1 hf
    refine Fx.run [(.iconst 0, 1, 0, 0, .int 0), (.istore_n 3, 1, 3, 0, .null), (.iconst 0, 1, 0, 0, .int 0), (.istore 4, 2, 4, 0, .null)] 16 (by decide +kernel) ?_
    show Fx q_Mo_composedOf 4 sh 16 [some (.ref c), some (.int v1), some (.int v2), some (.int 0), some (.int 0), none] [] hp (some (.int res.2)) res.1
    have hl := t_Mo_composedOf_l16 sh c hS hp v1 v2 res (0, 0) _ hf hk
    have hl : Fx q_Mo_composedOf 4 sh 16 [some (.ref c), some (.int v1), some (.int v2), some (.int 0), some (.int 0), none] [] hp (some (.int res.2)) res.1 := hl
    exact Fx.le hl (And.intro rfl (And.intro rfl (And.intro rfl (And.intro rfl (And.intro rfl trivial)))))
  · replace hf := ifp b1 hf
    refine Fx.run [(.aload_n 0, 1, 0, 0, .null)] 8 (by decide +kernel) ?_
    show Fx q_Mo_composedOf 4 sh 8 [some (.ref c), some (.int v1), some (.int v2), none, none, none] [.ref c] hp (some (.int res.2)) res.1
    replace hf := bnd hf
    obtain ⟨h10, hr9, hf⟩ := hf
    refine Fx.callV (rr := none) (hp1 := h10) [] [] lk_9_265 (by decide +kernel) (t_Mo_composes sh c (hS) hp h10 hr9) ⟨Nat.le_of_ble_eq_true rfl, Nat.le_of_ble_eq_true rfl⟩ (hS).1 (by decide) rfl (Nat.le_of_ble_eq_true rfl) ?_
    show Fx q_Mo_composedOf 4 sh 11 [some (.ref c), some (.int v1), some (.int v2), none, none, none] [] h10 (some (.int res.2)) res.1
    refine Fx.run [(.iconst 0, 1, 0, 0, .int 0), (.istore_n 3, 1, 3, 0, .null), (.iconst 0, 1, 0, 0, .int 0), (.istore 4, 2, 4, 0, .null)] 16 (by decide +kernel) ?_
    show Fx q_Mo_composedOf 4 sh 16 [some (.ref c), some (.int v1), some (.int v2), some (.int 0), some (.int 0), none] [] h10 (some (.int res.2)) res.1
    have hl := t_Mo_composedOf_l16 sh c hS h10 v1 v2 res (0, 0) _ hf hk
    have hl : Fx q_Mo_composedOf 4 sh 16 [some (.ref c), some (.int v1), some (.int v2), some (.int 0), some (.int 0), none] [] h10 (some (.int res.2)) res.1 := hl
    exact Fx.le hl (And.intro rfl (And.intro rfl (And.intro rfl (And.intro rfl (And.intro rfl trivial)))))
abbrev P_Mo_converseOf_4 (sh : Shp) (hp : HP) (v0 : Int32) (res : Int32) : (Int32 × Int32) → Prop := fun s => Fx q_Mo_converseOf 1 sh 4 [some (.int v0), some (.int s.1), some (.int s.2)] [] hp (some (.int res)) hp
set_option maxHeartbeats 4000000 in
set_option maxRecDepth 20000 in
theorem t_Mo_converseOf_l4 (sh : Shp) (hp : HP) (v0 : Int32) (res : Int32) : ∀ (s : (Int32 × Int32)) (t : Int32), f_Mo_converseOf_l4 v0 s = some t → (fun v => v = res) t → P_Mo_converseOf_4 sh hp v0 res s := by
  refine loop_ind (P_Mo_converseOf_4 sh hp v0 res) (fun v => v = res) ?_
  intro s t hf hk
  obtain ⟨v1, v2⟩ := s
  replace hf : f_Mo_converseOf_b4 v0 v1 v2 = some t := hf
  show Fx q_Mo_converseOf 1 sh 4 [some (.int v0), some (.int v1), some (.int v2)] [] hp (some (.int res)) hp
  unfold f_Mo_converseOf_b4 at hf
  refine Fx.run [(.iload_n 2, 1, 2, 0, .null), (.bipush 13, 2, 0, 0, .int 13)] 7 (by decide +kernel) ?_
  show Fx q_Mo_converseOf 1 sh 7 [some (.int v0), some (.int v1), some (.int v2)] [.int 13, .int v2] hp (some (.int res)) hp
  refine Fx.icmp_ge (22) 29 10 (by decide +kernel) (fun b1 => ?_) (fun b1 => ?_)
  · replace hf := ifp b1 hf
    replace hf := mpd hf
    obtain ⟨t, hf, rfl⟩ := hf
    refine Fx.run [(.iload_n 1, 1, 1, 0, .null)] 30 (by decide +kernel) ?_
    show Fx q_Mo_converseOf 1 sh 30 [some (.int v0), some (.int v1), some (.int v2)] [.int v1] hp (some (.int res)) hp
    obtain rfl := Option.some.inj hf
    have hk : v1 = res := hk
    subst hk
    exact Fx.iret (by decide +kernel) rfl
  · replace hf := ifn b1 hf
    refine Fx.run [(.iload_n 1, 1, 1, 0, .null), (.iload_n 0, 1, 0, 0, .null), (.iload_n 2, 1, 2, 0, .null), (.ishr, 1, 0, 0, .null), (.iconst 1, 1, 0, 0, .int 1), (.iand, 1, 0, 0, .null), (.bipush 12, 2, 0, 0, .int 12), (.iload_n 2, 1, 2, 0, .null), (.isub, 1, 0, 0, .null), (.ishl, 1, 0, 0, .null), (.ior, 1, 0, 0, .null), (.istore_n 1, 1, 1, 0, .null), (.iinc 2 1, 3, 2, 0, .int 1)] 26 (by decide +kernel) ?_
    show Fx q_Mo_converseOf 1 sh 26 [some (.int v0), some (.int (v1 ||| (((v0 >>> (v2 &&& 31)) &&& 1) <<< ((12 - v2) &&& 31)))), some (.int (v2 + 1))] [] hp (some (.int res)) hp
    refine Fx.goto (-22) 4 (by decide +kernel) ?_
    obtain rfl := Option.some.inj hf
    have hk : Fx q_Mo_converseOf 1 sh 4 [some (.int v0), some (.int (v1 ||| (((v0 >>> (v2 &&& 31)) &&& 1) <<< ((12 - v2) &&& 31)))), some (.int (v2 + 1))] [] hp (some (.int res)) hp := hk
    exact Fx.le hk (And.intro rfl (And.intro rfl (And.intro rfl trivial)))
set_option maxHeartbeats 4000000 in
set_option maxRecDepth 20000 in
theorem t_Mo_converseOf (sh : Shp) (hp : HP) (v0 : Int32) (res : Int32) (hf : f_Mo_converseOf v0 = some res) : Ex 1 q_Mo_converseOf sh [.int v0] hp (some (.int res)) hp := by
  refine Ex.of [some (.int v0), none, none] rfl (Nat.le_of_ble_eq_true rfl) (by decide +kernel) rfl ?_
  obtain ⟨t, hk⟩ : ∃ t, t = res := ⟨res, rfl⟩
  rw [← hk] at hf
  unfold f_Mo_converseOf at hf
  refine Fx.run [(.iconst 0, 1, 0, 0, .int 0), (.istore_n 1, 1, 1, 0, .null), (.iconst 0, 1, 0, 0, .int 0), (.istore_n 2, 1, 2, 0, .null)] 4 (by decide +kernel) ?_
  show Fx q_Mo_converseOf 1 sh 4 [some (.int v0), some (.int 0), some (.int 0)] [] hp (some (.int res)) hp
  have hl := t_Mo_converseOf_l4 sh hp v0 res (0, 0) _ hf hk
  have hl : Fx q_Mo_converseOf 1 sh 4 [some (.int v0), some (.int 0), some (.int 0)] [] hp (some (.int res)) hp := hl
  exact Fx.le hl (And.intro rfl (And.intro rfl (And.intro rfl trivial)))
set_option maxHeartbeats 4000000 in
set_option maxRecDepth 20000 in
theorem t_Mo_isKinds (sh : Shp) (hp : HP) (v0 : Int32) (res : Int32) (hf : f_Mo_isKinds v0 = some res) : Ex 2 q_Mo_isKinds sh [.int v0] hp (some (.int res)) hp := by
  refine Ex.of [some (.int v0)] rfl (Nat.le_of_ble_eq_true rfl) (by decide +kernel) rfl ?_
  obtain ⟨t, hk⟩ : ∃ t, t = res := ⟨res, rfl⟩
  rw [← hk] at hf
  unfold f_Mo_isKinds at hf
  refine Fx.run [(.iload_n 0, 1, 0, 0, .null), (.iconst 0, 1, 0, 0, .int 0), (.sipush 8191, 3, 0, 0, .int 8191)] 5 (by decide +kernel) ?_
  show Fx q_Mo_isKinds 2 sh 5 [some (.int v0)] [.int 8191, .int 0, .int v0] hp (some (.int res)) hp
  replace hf := bnd hf
  obtain ⟨r1, hr1, hf⟩ := hf
  refine Fx.callS (rr := (some (.int r1))) (hp1 := hp) [.int v0, .int 0, .int 8191] [] lk_9_48 (by decide +kernel) (t_Mo_isIn sh hp v0 0 8191 r1 hr1) ⟨Nat.le_of_ble_eq_true rfl, Nat.le_of_ble_eq_true rfl⟩ rfl (Nat.le_of_ble_eq_true rfl) ?_
  show Fx q_Mo_isKinds 2 sh 8 [some (.int v0)] [.int r1] hp (some (.int res)) hp
  replace hf := gd hf
  obtain ⟨g2, hf⟩ := hf
  obtain rfl := Option.some.inj hf
  have hk : r1 = res := hk
  subst hk
  exact Fx.zret (by decide +kernel) rfl g2
set_option maxHeartbeats 4000000 in
set_option maxRecDepth 20000 in
theorem t_Mo_converse (sh : Shp) (c : Nat) (hS : S_Mo sh c) (hp : HP) (v1 : Int32) (res : Int32) (hf : f_Mo_converse c hp v1 = some res) : Ex 3 q_Mo_converse sh [.ref c, .int v1] hp (some (.int res)) hp := by
  refine Ex.of [some (.ref c), some (.int v1)] rfl (Nat.le_of_ble_eq_true rfl) (by decide +kernel) rfl ?_
  obtain ⟨t, hk⟩ : ∃ t, t = res := ⟨res, rfl⟩
  rw [← hk] at hf
  unfold f_Mo_converse at hf
  refine Fx.run [(.iload_n 1, 1, 1, 0, .null)] 1 (by decide +kernel) ?_
  show Fx q_Mo_converse 3 sh 1 [some (.ref c), some (.int v1)] [.int v1] hp (some (.int res)) hp
  replace hf := bnd hf
  obtain ⟨r1, hr1, hf⟩ := hf
  refine Fx.callS (rr := (some (.int r1))) (hp1 := hp) [.int v1] [] lk_9_268 (by decide +kernel) (t_Mo_isKinds sh hp v1 r1 hr1) ⟨Nat.le_of_ble_eq_true rfl, Nat.le_of_ble_eq_true rfl⟩ rfl (Nat.le_of_ble_eq_true rfl) ?_
  show Fx q_Mo_converse 3 sh 4 [some (.ref c), some (.int v1)] [.int r1] hp (some (.int res)) hp
  refine Fx.if_eq (10) 14 7 (by decide +kernel) (fun b2 => ?_) (fun b2 => ?_)
  · replace hf := ifp b2 hf
    refine Fx.run [(.iconst (-1), 1, 0, 0, .int (-1))] 15 (by decide +kernel) ?_
    show Fx q_Mo_converse 3 sh 15 [some (.ref c), some (.int v1)] [.int (-1)] hp (some (.int res)) hp
    obtain rfl := Option.some.inj hf
    have hk : (-1) = res := hk
    subst hk
    exact Fx.iret (by decide +kernel) rfl
  · replace hf := ifn b2 hf
    refine Fx.run [(.iload_n 1, 1, 1, 0, .null)] 8 (by decide +kernel) ?_
    show Fx q_Mo_converse 3 sh 8 [some (.ref c), some (.int v1)] [.int v1] hp (some (.int res)) hp
    replace hf := bnd hf
    obtain ⟨r3, hr3, hf⟩ := hf
    refine Fx.callS (rr := (some (.int r3))) (hp1 := hp) [.int v1] [] lk_9_271 (by decide +kernel) (t_Mo_converseOf sh hp v1 r3 hr3) ⟨Nat.le_of_ble_eq_true rfl, Nat.le_of_ble_eq_true rfl⟩ rfl (Nat.le_of_ble_eq_true rfl) ?_
    show Fx q_Mo_converse 3 sh 11 [some (.ref c), some (.int v1)] [.int r3] hp (some (.int res)) hp
    refine Fx.goto (4) 15 (by decide +kernel) ?_
    obtain rfl := Option.some.inj hf
    have hk : r3 = res := hk
    subst hk
    exact Fx.iret (by decide +kernel) rfl
set_option maxHeartbeats 4000000 in
set_option maxRecDepth 20000 in
theorem t_Mo_compose (sh : Shp) (c : Nat) (hS : S_Mo sh c) (hp : HP) (v1 : Int32) (v2 : Int32) (res : (HP × Int32)) (hf : f_Mo_compose c hp v1 v2 = some res) : Ex 5 q_Mo_compose sh [.ref c, .int v1, .int v2] hp (some (.int res.2)) res.1 := by
  refine Ex.of [some (.ref c), some (.int v1), some (.int v2)] rfl (Nat.le_of_ble_eq_true rfl) (by decide +kernel) rfl ?_
  obtain ⟨t, hk⟩ : ∃ t, t = res := ⟨res, rfl⟩
  rw [← hk] at hf
  unfold f_Mo_compose at hf
  refine Fx.run [(.iload_n 1, 1, 1, 0, .null)] 1 (by decide +kernel) ?_
  show Fx q_Mo_compose 5 sh 1 [some (.ref c), some (.int v1), some (.int v2)] [.int v1] hp (some (.int res.2)) res.1
  replace hf := bnd hf
  obtain ⟨r1, hr1, hf⟩ := hf
  refine Fx.callS (rr := (some (.int r1))) (hp1 := hp) [.int v1] [] lk_9_268 (by decide +kernel) (t_Mo_isKinds sh hp v1 r1 hr1) ⟨Nat.le_of_ble_eq_true rfl, Nat.le_of_ble_eq_true rfl⟩ rfl (Nat.le_of_ble_eq_true rfl) ?_
  show Fx q_Mo_compose 5 sh 4 [some (.ref c), some (.int v1), some (.int v2)] [.int r1] hp (some (.int res.2)) res.1
  refine Fx.if_eq (19) 23 7 (by decide +kernel) (fun b2 => ?_) (fun b2 => ?_)
  · replace hf := ifp b2 hf
    refine Fx.run [(.iconst (-1), 1, 0, 0, .int (-1))] 24 (by decide +kernel) ?_
    show Fx q_Mo_compose 5 sh 24 [some (.ref c), some (.int v1), some (.int v2)] [.int (-1)] hp (some (.int res.2)) res.1
    obtain rfl := Option.some.inj hf
    have hk : (hp, (-1)) = res := hk
    subst hk
    exact Fx.iret (by decide +kernel) rfl
  · replace hf := ifn b2 hf
    refine Fx.run [(.iload_n 2, 1, 2, 0, .null)] 8 (by decide +kernel) ?_
    show Fx q_Mo_compose 5 sh 8 [some (.ref c), some (.int v1), some (.int v2)] [.int v2] hp (some (.int res.2)) res.1
    replace hf := bnd hf
    obtain ⟨r3, hr3, hf⟩ := hf
    refine Fx.callS (rr := (some (.int r3))) (hp1 := hp) [.int v2] [] lk_9_268 (by decide +kernel) (t_Mo_isKinds sh hp v2 r3 hr3) ⟨Nat.le_of_ble_eq_true rfl, Nat.le_of_ble_eq_true rfl⟩ rfl (Nat.le_of_ble_eq_true rfl) ?_
    show Fx q_Mo_compose 5 sh 11 [some (.ref c), some (.int v1), some (.int v2)] [.int r3] hp (some (.int res.2)) res.1
    refine Fx.if_eq (12) 23 14 (by decide +kernel) (fun b4 => ?_) (fun b4 => ?_)
    · replace hf := ifp b4 hf
      refine Fx.run [(.iconst (-1), 1, 0, 0, .int (-1))] 24 (by decide +kernel) ?_
      show Fx q_Mo_compose 5 sh 24 [some (.ref c), some (.int v1), some (.int v2)] [.int (-1)] hp (some (.int res.2)) res.1
      obtain rfl := Option.some.inj hf
      have hk : (hp, (-1)) = res := hk
      subst hk
      exact Fx.iret (by decide +kernel) rfl
    · replace hf := ifn b4 hf
      refine Fx.run [(.aload_n 0, 1, 0, 0, .null), (.iload_n 1, 1, 1, 0, .null), (.iload_n 2, 1, 2, 0, .null)] 17 (by decide +kernel) ?_
      show Fx q_Mo_compose 5 sh 17 [some (.ref c), some (.int v1), some (.int v2)] [.int v2, .int v1, .ref c] hp (some (.int res.2)) res.1
      replace hf := bnd hf
      obtain ⟨⟨h6, r5⟩, hr5, hf⟩ := hf
      dsimp only at hf
      refine Fx.callV (rr := (some (.int r5))) (hp1 := h6) [.int v1, .int v2] [] lk_9_274 (by decide +kernel) (t_Mo_composedOf sh c (hS) hp v1 v2 (h6, r5) hr5) ⟨Nat.le_of_ble_eq_true rfl, Nat.le_of_ble_eq_true rfl⟩ (hS).1 (by decide) rfl (Nat.le_of_ble_eq_true rfl) ?_
      show Fx q_Mo_compose 5 sh 20 [some (.ref c), some (.int v1), some (.int v2)] [.int r5] h6 (some (.int res.2)) res.1
      refine Fx.goto (4) 24 (by decide +kernel) ?_
      obtain rfl := Option.some.inj hf
      have hk : (h6, r5) = res := hk
      subst hk
      exact Fx.iret (by decide +kernel) rfl
set_option maxHeartbeats 4000000 in
set_option maxRecDepth 20000 in
theorem t_Mo_isName (sh : Shp) (hp : HP) (v0 : Int32) (res : Int32) (hf : f_Mo_isName v0 = some res) : Ex 2 q_Mo_isName sh [.int v0] hp (some (.int res)) hp := by
  refine Ex.of [some (.int v0)] rfl (Nat.le_of_ble_eq_true rfl) (by decide +kernel) rfl ?_
  obtain ⟨t, hk⟩ : ∃ t, t = res := ⟨res, rfl⟩
  rw [← hk] at hf
  unfold f_Mo_isName at hf
  refine Fx.run [(.iload_n 0, 1, 0, 0, .null), (.iconst 0, 1, 0, 0, .int 0), (.iconst 5, 1, 0, 0, .int 5)] 3 (by decide +kernel) ?_
  show Fx q_Mo_isName 2 sh 3 [some (.int v0)] [.int 5, .int 0, .int v0] hp (some (.int res)) hp
  replace hf := bnd hf
  obtain ⟨r1, hr1, hf⟩ := hf
  refine Fx.callS (rr := (some (.int r1))) (hp1 := hp) [.int v0, .int 0, .int 5] [] lk_9_48 (by decide +kernel) (t_Mo_isIn sh hp v0 0 5 r1 hr1) ⟨Nat.le_of_ble_eq_true rfl, Nat.le_of_ble_eq_true rfl⟩ rfl (Nat.le_of_ble_eq_true rfl) ?_
  show Fx q_Mo_isName 2 sh 6 [some (.int v0)] [.int r1] hp (some (.int res)) hp
  replace hf := gd hf
  obtain ⟨g2, hf⟩ := hf
  obtain rfl := Option.some.inj hf
  have hk : r1 = res := hk
  subst hk
  exact Fx.zret (by decide +kernel) rfl g2
set_option maxHeartbeats 4000000 in
set_option maxRecDepth 20000 in
theorem t_Mo_ties (sh : Shp) (c : Nat) (hS : S_Mo sh c) (hp : HP) (v1 : Int32) (v2 : Int32) (v3 : Int32) (res : HP) (hf : f_Mo_ties c hp v1 v2 v3 = some res) : Ex 2 q_Mo_ties sh [.ref c, .int v1, .int v2, .int v3] hp none res := by
  refine Ex.of [some (.ref c), some (.int v1), some (.int v2), some (.int v3)] rfl (Nat.le_of_ble_eq_true rfl) (by decide +kernel) rfl ?_
  obtain ⟨t, hk⟩ : ∃ t, t = res := ⟨res, rfl⟩
  rw [← hk] at hf
  unfold f_Mo_ties at hf
  replace hf := gd hf
  obtain ⟨g1, hf⟩ := hf
  refine Fx.run [(.aload_n 0, 1, 0, 0, .null), (.getfield 9, 3, 9, 0, .ref 1), (.sipush 4064, 3, 0, 0, .int 4064), (.bipush 6, 2, 0, 0, .int 6), (.iload_n 1, 1, 1, 0, .null), (.imul, 1, 0, 0, .null), (.iadd, 1, 0, 0, .null), (.iload_n 2, 1, 2, 0, .null), (.iadd, 1, 0, 0, .null), (.iload_n 3, 1, 3, 0, .null), (.iastore, 1, 4100, 0, .null), (.aload_n 0, 1, 0, 0, .null), (.getfield 9, 3, 9, 0, .ref 1), (.sipush 4064, 3, 0, 0, .int 4064), (.bipush 6, 2, 0, 0, .int 6), (.iload_n 2, 1, 2, 0, .null), (.imul, 1, 0, 0, .null), (.iadd, 1, 0, 0, .null), (.iload_n 1, 1, 1, 0, .null), (.iadd, 1, 0, 0, .null), (.iload_n 3, 1, 3, 0, .null)] 31 (by decide +kernel) ?_
  show isK sh c 9 ∧ (isA sh (c + 1) 10 4100 ∧ inb ((4064 + (6 * v1)) + v2) 4100) ∧ isK sh c 9 ∧ Fx q_Mo_ties 2 sh 31 [some (.ref c), some (.int v1), some (.int v2), some (.int v3)] [.int v3, .int ((4064 + (6 * v2)) + v1), .ref (c + 1)] (upI hp (c + 1) (ix ((4064 + (6 * v1)) + v2)) v3) none res
  refine ⟨hS.1, ⟨hS.2.1, g1⟩, hS.1, ?_⟩
  replace hf := bnd hf
  obtain ⟨r2, hr2, hf⟩ := hf
  refine Fx.callS (rr := (some (.int r2))) (hp1 := (upI hp (c + 1) (ix ((4064 + (6 * v1)) + v2)) v3)) [.int v3] [.int ((4064 + (6 * v2)) + v1), .ref (c + 1)] lk_9_271 (by decide +kernel) (t_Mo_converseOf sh (upI hp (c + 1) (ix ((4064 + (6 * v1)) + v2)) v3) v3 r2 hr2) ⟨Nat.le_of_ble_eq_true rfl, Nat.le_of_ble_eq_true rfl⟩ rfl (Nat.le_of_ble_eq_true rfl) ?_
  show Fx q_Mo_ties 2 sh 34 [some (.ref c), some (.int v1), some (.int v2), some (.int v3)] [.int r2, .int ((4064 + (6 * v2)) + v1), .ref (c + 1)] (upI hp (c + 1) (ix ((4064 + (6 * v1)) + v2)) v3) none res
  replace hf := gd hf
  obtain ⟨g3, hf⟩ := hf
  refine Fx.run [(.iastore, 1, 4100, 0, .null)] 35 (by decide +kernel) ?_
  show (isA sh (c + 1) 10 4100 ∧ inb ((4064 + (6 * v2)) + v1) 4100) ∧ Fx q_Mo_ties 2 sh 35 [some (.ref c), some (.int v1), some (.int v2), some (.int v3)] [] (upI (upI hp (c + 1) (ix ((4064 + (6 * v1)) + v2)) v3) (c + 1) (ix ((4064 + (6 * v2)) + v1)) r2) none res
  refine ⟨⟨hS.2.1, g3⟩, ?_⟩
  obtain rfl := Option.some.inj hf
  have hk : (upI (upI hp (c + 1) (ix ((4064 + (6 * v1)) + v2)) v3) (c + 1) (ix ((4064 + (6 * v2)) + v1)) r2) = res := hk
  subst hk
  exact Fx.vret (by decide +kernel) rfl
set_option maxHeartbeats 4000000 in
set_option maxRecDepth 20000 in
theorem t_Mo_net (sh : Shp) (c : Nat) (hS : S_Mo sh c) (hp : HP) (v1 : Int32) (v2 : Int32) (v3 : Int32) (res : (HP × Int32)) (hf : f_Mo_net c hp v1 v2 v3 = some res) : Ex 3 q_Mo_net sh [.ref c, .int v1, .int v2, .int v3] hp (some (.int res.2)) res.1 := by
  refine Ex.of [some (.ref c), some (.int v1), some (.int v2), some (.int v3)] rfl (Nat.le_of_ble_eq_true rfl) (by decide +kernel) rfl ?_
  obtain ⟨t, hk⟩ : ∃ t, t = res := ⟨res, rfl⟩
  rw [← hk] at hf
  unfold f_Mo_net at hf
  refine Fx.run [(.iload_n 1, 1, 1, 0, .null)] 1 (by decide +kernel) ?_
  show Fx q_Mo_net 3 sh 1 [some (.ref c), some (.int v1), some (.int v2), some (.int v3)] [.int v1] hp (some (.int res.2)) res.1
  replace hf := bnd hf
  obtain ⟨r1, hr1, hf⟩ := hf
  refine Fx.callS (rr := (some (.int r1))) (hp1 := hp) [.int v1] [] lk_9_277 (by decide +kernel) (t_Mo_isName sh hp v1 r1 hr1) ⟨Nat.le_of_ble_eq_true rfl, Nat.le_of_ble_eq_true rfl⟩ rfl (Nat.le_of_ble_eq_true rfl) ?_
  show Fx q_Mo_net 3 sh 4 [some (.ref c), some (.int v1), some (.int v2), some (.int v3)] [.int r1] hp (some (.int res.2)) res.1
  refine Fx.if_eq (22) 26 7 (by decide +kernel) (fun b2 => ?_) (fun b2 => ?_)
  · replace hf := ifp b2 hf
    refine Fx.run [(.iconst 0, 1, 0, 0, .int 0)] 27 (by decide +kernel) ?_
    show Fx q_Mo_net 3 sh 27 [some (.ref c), some (.int v1), some (.int v2), some (.int v3)] [.int 0] hp (some (.int res.2)) res.1
    obtain rfl := Option.some.inj hf
    have hk : (hp, 0) = res := hk
    subst hk
    exact Fx.zret (by decide +kernel) rfl (Or.inl rfl)
  · replace hf := ifn b2 hf
    refine Fx.run [(.iload_n 2, 1, 2, 0, .null)] 8 (by decide +kernel) ?_
    show Fx q_Mo_net 3 sh 8 [some (.ref c), some (.int v1), some (.int v2), some (.int v3)] [.int v2] hp (some (.int res.2)) res.1
    replace hf := bnd hf
    obtain ⟨r3, hr3, hf⟩ := hf
    refine Fx.callS (rr := (some (.int r3))) (hp1 := hp) [.int v2] [] lk_9_277 (by decide +kernel) (t_Mo_isName sh hp v2 r3 hr3) ⟨Nat.le_of_ble_eq_true rfl, Nat.le_of_ble_eq_true rfl⟩ rfl (Nat.le_of_ble_eq_true rfl) ?_
    show Fx q_Mo_net 3 sh 11 [some (.ref c), some (.int v1), some (.int v2), some (.int v3)] [.int r3] hp (some (.int res.2)) res.1
    refine Fx.if_eq (15) 26 14 (by decide +kernel) (fun b4 => ?_) (fun b4 => ?_)
    · replace hf := ifp b4 hf
      refine Fx.run [(.iconst 0, 1, 0, 0, .int 0)] 27 (by decide +kernel) ?_
      show Fx q_Mo_net 3 sh 27 [some (.ref c), some (.int v1), some (.int v2), some (.int v3)] [.int 0] hp (some (.int res.2)) res.1
      obtain rfl := Option.some.inj hf
      have hk : (hp, 0) = res := hk
      subst hk
      exact Fx.zret (by decide +kernel) rfl (Or.inl rfl)
    · replace hf := ifn b4 hf
      refine Fx.run [(.iload_n 1, 1, 1, 0, .null), (.iload_n 2, 1, 2, 0, .null)] 16 (by decide +kernel) ?_
      show Fx q_Mo_net 3 sh 16 [some (.ref c), some (.int v1), some (.int v2), some (.int v3)] [.int v2, .int v1] hp (some (.int res.2)) res.1
      refine Fx.icmp_eq (10) 26 19 (by decide +kernel) (fun b5 => ?_) (fun b5 => ?_)
      · replace hf := ifp b5 hf
        refine Fx.run [(.iconst 0, 1, 0, 0, .int 0)] 27 (by decide +kernel) ?_
        show Fx q_Mo_net 3 sh 27 [some (.ref c), some (.int v1), some (.int v2), some (.int v3)] [.int 0] hp (some (.int res.2)) res.1
        obtain rfl := Option.some.inj hf
        have hk : (hp, 0) = res := hk
        subst hk
        exact Fx.zret (by decide +kernel) rfl (Or.inl rfl)
      · replace hf := ifn b5 hf
        refine Fx.run [(.iload_n 3, 1, 3, 0, .null)] 20 (by decide +kernel) ?_
        show Fx q_Mo_net 3 sh 20 [some (.ref c), some (.int v1), some (.int v2), some (.int v3)] [.int v3] hp (some (.int res.2)) res.1
        replace hf := bnd hf
        obtain ⟨r6, hr6, hf⟩ := hf
        refine Fx.callS (rr := (some (.int r6))) (hp1 := hp) [.int v3] [] lk_9_268 (by decide +kernel) (t_Mo_isKinds sh hp v3 r6 hr6) ⟨Nat.le_of_ble_eq_true rfl, Nat.le_of_ble_eq_true rfl⟩ rfl (Nat.le_of_ble_eq_true rfl) ?_
        show Fx q_Mo_net 3 sh 23 [some (.ref c), some (.int v1), some (.int v2), some (.int v3)] [.int r6] hp (some (.int res.2)) res.1
        refine Fx.if_ne (5) 28 26 (by decide +kernel) (fun b7 => ?_) (fun b7 => ?_)
        · replace hf := ifn b7 hf
          refine Fx.run [(.aload_n 0, 1, 0, 0, .null), (.iload_n 1, 1, 1, 0, .null), (.iload_n 2, 1, 2, 0, .null), (.iload_n 3, 1, 3, 0, .null)] 32 (by decide +kernel) ?_
          show Fx q_Mo_net 3 sh 32 [some (.ref c), some (.int v1), some (.int v2), some (.int v3)] [.int v3, .int v2, .int v1, .ref c] hp (some (.int res.2)) res.1
          replace hf := bnd hf
          obtain ⟨h9, hr8, hf⟩ := hf
          refine Fx.callV (rr := none) (hp1 := h9) [.int v1, .int v2, .int v3] [] lk_9_280 (by decide +kernel) (t_Mo_ties sh c (hS) hp v1 v2 v3 h9 hr8) ⟨Nat.le_of_ble_eq_true rfl, Nat.le_of_ble_eq_true rfl⟩ (hS).1 (by decide) rfl (Nat.le_of_ble_eq_true rfl) ?_
          show Fx q_Mo_net 3 sh 35 [some (.ref c), some (.int v1), some (.int v2), some (.int v3)] [] h9 (some (.int res.2)) res.1
          refine Fx.run [(.iconst 1, 1, 0, 0, .int 1)] 36 (by decide +kernel) ?_
          show Fx q_Mo_net 3 sh 36 [some (.ref c), some (.int v1), some (.int v2), some (.int v3)] [.int 1] h9 (some (.int res.2)) res.1
          obtain rfl := Option.some.inj hf
          have hk : (h9, 1) = res := hk
          subst hk
          exact Fx.zret (by decide +kernel) rfl (Or.inr rfl)
        · replace hf := ifp b7 hf
          refine Fx.run [(.iconst 0, 1, 0, 0, .int 0)] 27 (by decide +kernel) ?_
          show Fx q_Mo_net 3 sh 27 [some (.ref c), some (.int v1), some (.int v2), some (.int v3)] [.int 0] hp (some (.int res.2)) res.1
          obtain rfl := Option.some.inj hf
          have hk : (hp, 0) = res := hk
          subst hk
          exact Fx.zret (by decide +kernel) rfl (Or.inl rfl)
set_option maxHeartbeats 4000000 in
set_option maxRecDepth 20000 in
theorem t_Mo_isTighter (sh : Shp) (c : Nat) (hS : S_Mo sh c) (hp : HP) (v1 : Int32) (v2 : Int32) (v3 : Int32) (res : (HP × Int32)) (hf : f_Mo_isTighter c hp v1 v2 v3 = some res) : Ex 5 q_Mo_isTighter sh [.ref c, .int v1, .int v2, .int v3] hp (some (.int res.2)) res.1 := by
  refine Ex.of [some (.ref c), some (.int v1), some (.int v2), some (.int v3), none] rfl (Nat.le_of_ble_eq_true rfl) (by decide +kernel) rfl ?_
  obtain ⟨t, hk⟩ : ∃ t, t = res := ⟨res, rfl⟩
  rw [← hk] at hf
  unfold f_Mo_isTighter at hf
  replace hf := gd hf
  obtain ⟨g1, hf⟩ := hf
  replace hf := gd hf
  obtain ⟨g2, hf⟩ := hf
  replace hf := gd hf
  obtain ⟨g3, hf⟩ := hf
  refine Fx.run [(.aload_n 0, 1, 0, 0, .null), (.getfield 37, 3, 9, 13, .ref 10), (.bipush 6, 2, 0, 0, .int 6), (.iload_n 1, 1, 1, 0, .null), (.imul, 1, 0, 0, .null), (.iload_n 3, 1, 3, 0, .null), (.iadd, 1, 0, 0, .null), (.iaload, 1, 36, 0, .null), (.istore 4, 2, 4, 0, .null), (.aload_n 0, 1, 0, 0, .null), (.getfield 37, 3, 9, 13, .ref 10), (.bipush 6, 2, 0, 0, .int 6), (.iload_n 1, 1, 1, 0, .null), (.imul, 1, 0, 0, .null), (.iload_n 3, 1, 3, 0, .null), (.iadd, 1, 0, 0, .null), (.iload 4, 2, 4, 0, .null), (.aload_n 0, 1, 0, 0, .null), (.aload_n 0, 1, 0, 0, .null), (.getfield 37, 3, 9, 13, .ref 10), (.bipush 6, 2, 0, 0, .int 6), (.iload_n 1, 1, 1, 0, .null), (.imul, 1, 0, 0, .null), (.iload_n 2, 1, 2, 0, .null), (.iadd, 1, 0, 0, .null), (.iaload, 1, 36, 0, .null), (.aload_n 0, 1, 0, 0, .null), (.getfield 37, 3, 9, 13, .ref 10), (.bipush 6, 2, 0, 0, .int 6), (.iload_n 2, 1, 2, 0, .null), (.imul, 1, 0, 0, .null), (.iload_n 3, 1, 3, 0, .null), (.iadd, 1, 0, 0, .null), (.iaload, 1, 36, 0, .null)] 48 (by decide +kernel) ?_
  show isK sh c 9 ∧ (isA sh (c + 10) 10 36 ∧ inb ((6 * v1) + v3) 36) ∧ isK sh c 9 ∧ isK sh c 9 ∧ (isA sh (c + 10) 10 36 ∧ inb ((6 * v1) + v2) 36) ∧ isK sh c 9 ∧ (isA sh (c + 10) 10 36 ∧ inb ((6 * v2) + v3) 36) ∧ Fx q_Mo_isTighter 5 sh 48 [some (.ref c), some (.int v1), some (.int v2), some (.int v3), some (.int (hp.1 (c + 10) (ix ((6 * v1) + v3))))] [.int (hp.1 (c + 10) (ix ((6 * v2) + v3))), .int (hp.1 (c + 10) (ix ((6 * v1) + v2))), .ref c, .int (hp.1 (c + 10) (ix ((6 * v1) + v3))), .int ((6 * v1) + v3), .ref (c + 10)] hp (some (.int res.2)) res.1
  refine ⟨hS.1, ⟨hS.2.2.2.2.2.2.2.2.2.2, g1⟩, hS.1, hS.1, ⟨hS.2.2.2.2.2.2.2.2.2.2, g2⟩, hS.1, ⟨hS.2.2.2.2.2.2.2.2.2.2, g3⟩, ?_⟩
  replace hf := bnd hf
  obtain ⟨⟨h5, r4⟩, hr4, hf⟩ := hf
  dsimp only at hf
  refine Fx.callV (rr := (some (.int r4))) (hp1 := h5) [.int (hp.1 (c + 10) (ix ((6 * v1) + v2))), .int (hp.1 (c + 10) (ix ((6 * v2) + v3)))] [.int (hp.1 (c + 10) (ix ((6 * v1) + v3))), .int ((6 * v1) + v3), .ref (c + 10)] lk_9_274 (by decide +kernel) (t_Mo_composedOf sh c (hS) hp (hp.1 (c + 10) (ix ((6 * v1) + v2))) (hp.1 (c + 10) (ix ((6 * v2) + v3))) (h5, r4) hr4) ⟨Nat.le_of_ble_eq_true rfl, Nat.le_of_ble_eq_true rfl⟩ (hS).1 (by decide) rfl (Nat.le_of_ble_eq_true rfl) ?_
  show Fx q_Mo_isTighter 5 sh 51 [some (.ref c), some (.int v1), some (.int v2), some (.int v3), some (.int (hp.1 (c + 10) (ix ((6 * v1) + v3))))] [.int r4, .int (hp.1 (c + 10) (ix ((6 * v1) + v3))), .int ((6 * v1) + v3), .ref (c + 10)] h5 (some (.int res.2)) res.1
  replace hf := gd hf
  obtain ⟨g6, hf⟩ := hf
  replace hf := gd hf
  obtain ⟨g7, hf⟩ := hf
  refine Fx.run [(.iand, 1, 0, 0, .null), (.iastore, 1, 36, 0, .null), (.aload_n 0, 1, 0, 0, .null), (.getfield 37, 3, 9, 13, .ref 10), (.bipush 6, 2, 0, 0, .int 6), (.iload_n 1, 1, 1, 0, .null), (.imul, 1, 0, 0, .null), (.iload_n 3, 1, 3, 0, .null), (.iadd, 1, 0, 0, .null), (.iaload, 1, 36, 0, .null), (.iload 4, 2, 4, 0, .null)] 66 (by decide +kernel) ?_
  show (isA sh (c + 10) 10 36 ∧ inb ((6 * v1) + v3) 36) ∧ isK sh c 9 ∧ (isA sh (c + 10) 10 36 ∧ inb ((6 * v1) + v3) 36) ∧ Fx q_Mo_isTighter 5 sh 66 [some (.ref c), some (.int v1), some (.int v2), some (.int v3), some (.int (hp.1 (c + 10) (ix ((6 * v1) + v3))))] [.int (hp.1 (c + 10) (ix ((6 * v1) + v3))), .int ((upI h5 (c + 10) (ix ((6 * v1) + v3)) ((hp.1 (c + 10) (ix ((6 * v1) + v3))) &&& r4)).1 (c + 10) (ix ((6 * v1) + v3)))] (upI h5 (c + 10) (ix ((6 * v1) + v3)) ((hp.1 (c + 10) (ix ((6 * v1) + v3))) &&& r4)) (some (.int res.2)) res.1
  refine ⟨⟨hS.2.2.2.2.2.2.2.2.2.2, g6⟩, hS.1, ⟨hS.2.2.2.2.2.2.2.2.2.2, g7⟩, ?_⟩
  refine Fx.icmp_eq (7) 73 69 (by decide +kernel) (fun b8 => ?_) (fun b8 => ?_)
  · replace hf := ifp b8 hf
    refine Fx.run [(.iconst 0, 1, 0, 0, .int 0)] 74 (by decide +kernel) ?_
    show Fx q_Mo_isTighter 5 sh 74 [some (.ref c), some (.int v1), some (.int v2), some (.int v3), some (.int (hp.1 (c + 10) (ix ((6 * v1) + v3))))] [.int 0] (upI h5 (c + 10) (ix ((6 * v1) + v3)) ((hp.1 (c + 10) (ix ((6 * v1) + v3))) &&& r4)) (some (.int res.2)) res.1
    obtain rfl := Option.some.inj hf
    have hk : ((upI h5 (c + 10) (ix ((6 * v1) + v3)) ((hp.1 (c + 10) (ix ((6 * v1) + v3))) &&& r4)), 0) = res := hk
    subst hk
    exact Fx.zret (by decide +kernel) rfl (Or.inl rfl)
  · replace hf := ifn b8 hf
    refine Fx.run [(.iconst 1, 1, 0, 0, .int 1)] 70 (by decide +kernel) ?_
    show Fx q_Mo_isTighter 5 sh 70 [some (.ref c), some (.int v1), some (.int v2), some (.int v3), some (.int (hp.1 (c + 10) (ix ((6 * v1) + v3))))] [.int 1] (upI h5 (c + 10) (ix ((6 * v1) + v3)) ((hp.1 (c + 10) (ix ((6 * v1) + v3))) &&& r4)) (some (.int res.2)) res.1
    refine Fx.goto (4) 74 (by decide +kernel) ?_
    obtain rfl := Option.some.inj hf
    have hk : ((upI h5 (c + 10) (ix ((6 * v1) + v3)) ((hp.1 (c + 10) (ix ((6 * v1) + v3))) &&& r4)), 1) = res := hk
    subst hk
    exact Fx.zret (by decide +kernel) rfl (Or.inr rfl)
abbrev P_Mo_tightens_2 (sh : Shp) (c : Nat)  (res : HP) : (HP × Int32) → Prop := fun s => Fx q_Mo_tightens 6 sh 2 [some (.ref c), some (.int s.2), none, none, none] [] s.1 none res
abbrev P_Mo_tightens_32 (sh : Shp) (c : Nat)  (res : HP) : (HP × Int32) → Prop := fun s => Fx q_Mo_tightens 6 sh 32 [some (.ref c), some (.int s.2), none, none, none] [] s.1 none res
abbrev P_Mo_tightens_40 (sh : Shp) (c : Nat)  (res : HP) : (HP × Int32 × Int32) → Prop := fun s => Fx q_Mo_tightens 6 sh 40 [some (.ref c), some (.int s.2.1), some (.int s.2.2), none, none] [] s.1 none res
abbrev P_Mo_tightens_48 (sh : Shp) (c : Nat) (v2 : Int32) (res : HP) : (HP × Int32 × Int32) → Prop := fun s => Fx q_Mo_tightens 6 sh 48 [some (.ref c), some (.int s.2.1), some (.int v2), some (.int s.2.2), none] [] s.1 none res
abbrev P_Mo_tightens_57 (sh : Shp) (c : Nat) (v2 : Int32) (v3 : Int32) (res : HP) : (HP × Int32 × Int32) → Prop := fun s => Fx q_Mo_tightens 6 sh 57 [some (.ref c), some (.int s.2.1), some (.int v2), some (.int v3), some (.int s.2.2)] [] s.1 none res
set_option maxHeartbeats 4000000 in
set_option maxRecDepth 20000 in
theorem t_Mo_tightens_l57 (sh : Shp) (c : Nat) (hS : S_Mo sh c) (hp : HP) (v2 : Int32) (v3 : Int32) (res : HP) : ∀ (s : (HP × Int32 × Int32)) (t : ((HP × Int32 × Int32) ⊕ ((HP × Int32 × Int32) ⊕ ((HP × Int32) ⊕ HP)))), f_Mo_tightens_l57 c hp v2 v3 s = some t → (Kel (P_Mo_tightens_48 sh c v2 res) (Kel (P_Mo_tightens_40 sh c  res) (Kel (P_Mo_tightens_32 sh c  res) (fun v => v = res)))) t → P_Mo_tightens_57 sh c v2 v3 res s := by
  refine loop_ind (P_Mo_tightens_57 sh c v2 v3 res) (Kel (P_Mo_tightens_48 sh c v2 res) (Kel (P_Mo_tightens_40 sh c  res) (Kel (P_Mo_tightens_32 sh c  res) (fun v => v = res)))) ?_
  intro s t hf hk
  obtain ⟨hp, v1, v4⟩ := s
  replace hf : f_Mo_tightens_b57 c hp v2 v3 v1 v4 = some t := hf
  show Fx q_Mo_tightens 6 sh 57 [some (.ref c), some (.int v1), some (.int v2), some (.int v3), some (.int v4)] [] hp none res
  unfold f_Mo_tightens_b57 at hf
  refine Fx.run [(.iload 4, 2, 4, 0, .null), (.bipush 6, 2, 0, 0, .int 6)] 61 (by decide +kernel) ?_
  show Fx q_Mo_tightens 6 sh 61 [some (.ref c), some (.int v1), some (.int v2), some (.int v3), some (.int v4)] [.int 6, .int v4] hp none res
  refine Fx.icmp_ge (39) 100 64 (by decide +kernel) (fun b5 => ?_) (fun b5 => ?_)
  · replace hf := ifp b5 hf
    replace hf := mpd hf
    obtain ⟨t, hf, rfl⟩ := hf
    refine Fx.run [(.iinc 3 1, 3, 3, 0, .int 1)] 103 (by decide +kernel) ?_
    show Fx q_Mo_tightens 6 sh 103 [some (.ref c), some (.int v1), some (.int v2), some (.int (v3 + 1)), some (.int v4)] [] hp none res
    refine Fx.goto (-55) 48 (by decide +kernel) ?_
    obtain rfl := Option.some.inj hf
    have hk : Fx q_Mo_tightens 6 sh 48 [some (.ref c), some (.int v1), some (.int v2), some (.int (v3 + 1)), none] [] hp none res := hk
    exact Fx.le hk (And.intro rfl (And.intro rfl (And.intro rfl (And.intro rfl trivial))))
  · replace hf := ifn b5 hf
    refine Fx.run [(.iload_n 2, 1, 2, 0, .null), (.iload_n 3, 1, 3, 0, .null)] 66 (by decide +kernel) ?_
    show Fx q_Mo_tightens 6 sh 66 [some (.ref c), some (.int v1), some (.int v2), some (.int v3), some (.int v4)] [.int v3, .int v2] hp none res
    refine Fx.icmp_eq (28) 94 69 (by decide +kernel) (fun b6 => ?_) (fun b6 => ?_)
    · replace hf := ifp b6 hf
      refine Fx.run [(.iinc 4 1, 3, 4, 0, .int 1)] 97 (by decide +kernel) ?_
      show Fx q_Mo_tightens 6 sh 97 [some (.ref c), some (.int v1), some (.int v2), some (.int v3), some (.int (v4 + 1))] [] hp none res
      refine Fx.goto (-40) 57 (by decide +kernel) ?_
      obtain rfl := Option.some.inj hf
      have hk : Fx q_Mo_tightens 6 sh 57 [some (.ref c), some (.int v1), some (.int v2), some (.int v3), some (.int (v4 + 1))] [] hp none res := hk
      exact Fx.le hk (And.intro rfl (And.intro rfl (And.intro rfl (And.intro rfl (And.intro rfl trivial)))))
    · replace hf := ifn b6 hf
      refine Fx.run [(.iload_n 3, 1, 3, 0, .null), (.iload 4, 2, 4, 0, .null)] 72 (by decide +kernel) ?_
      show Fx q_Mo_tightens 6 sh 72 [some (.ref c), some (.int v1), some (.int v2), some (.int v3), some (.int v4)] [.int v4, .int v3] hp none res
      refine Fx.icmp_eq (22) 94 75 (by decide +kernel) (fun b7 => ?_) (fun b7 => ?_)
      · replace hf := ifp b7 hf
        refine Fx.run [(.iinc 4 1, 3, 4, 0, .int 1)] 97 (by decide +kernel) ?_
        show Fx q_Mo_tightens 6 sh 97 [some (.ref c), some (.int v1), some (.int v2), some (.int v3), some (.int (v4 + 1))] [] hp none res
        refine Fx.goto (-40) 57 (by decide +kernel) ?_
        obtain rfl := Option.some.inj hf
        have hk : Fx q_Mo_tightens 6 sh 57 [some (.ref c), some (.int v1), some (.int v2), some (.int v3), some (.int (v4 + 1))] [] hp none res := hk
        exact Fx.le hk (And.intro rfl (And.intro rfl (And.intro rfl (And.intro rfl (And.intro rfl trivial)))))
      · replace hf := ifn b7 hf
        refine Fx.run [(.iload_n 2, 1, 2, 0, .null), (.iload 4, 2, 4, 0, .null)] 78 (by decide +kernel) ?_
        show Fx q_Mo_tightens 6 sh 78 [some (.ref c), some (.int v1), some (.int v2), some (.int v3), some (.int v4)] [.int v4, .int v2] hp none res
        refine Fx.icmp_eq (16) 94 81 (by decide +kernel) (fun b8 => ?_) (fun b8 => ?_)
        · replace hf := ifp b8 hf
          refine Fx.run [(.iinc 4 1, 3, 4, 0, .int 1)] 97 (by decide +kernel) ?_
          show Fx q_Mo_tightens 6 sh 97 [some (.ref c), some (.int v1), some (.int v2), some (.int v3), some (.int (v4 + 1))] [] hp none res
          refine Fx.goto (-40) 57 (by decide +kernel) ?_
          obtain rfl := Option.some.inj hf
          have hk : Fx q_Mo_tightens 6 sh 57 [some (.ref c), some (.int v1), some (.int v2), some (.int v3), some (.int (v4 + 1))] [] hp none res := hk
          exact Fx.le hk (And.intro rfl (And.intro rfl (And.intro rfl (And.intro rfl (And.intro rfl trivial)))))
        · replace hf := ifn b8 hf
          refine Fx.run [(.aload_n 0, 1, 0, 0, .null), (.iload_n 2, 1, 2, 0, .null), (.iload_n 3, 1, 3, 0, .null), (.iload 4, 2, 4, 0, .null)] 86 (by decide +kernel) ?_
          show Fx q_Mo_tightens 6 sh 86 [some (.ref c), some (.int v1), some (.int v2), some (.int v3), some (.int v4)] [.int v4, .int v3, .int v2, .ref c] hp none res
          replace hf := bnd hf
          obtain ⟨⟨h10, r9⟩, hr9, hf⟩ := hf
          dsimp only at hf
          refine Fx.callV (rr := (some (.int r9))) (hp1 := h10) [.int v2, .int v3, .int v4] [] lk_9_283 (by decide +kernel) (t_Mo_isTighter sh c (hS) hp v2 v3 v4 (h10, r9) hr9) ⟨Nat.le_of_ble_eq_true rfl, Nat.le_of_ble_eq_true rfl⟩ (hS).1 (by decide) rfl (Nat.le_of_ble_eq_true rfl) ?_
          show Fx q_Mo_tightens 6 sh 89 [some (.ref c), some (.int v1), some (.int v2), some (.int v3), some (.int v4)] [.int r9] h10 none res
          refine Fx.if_eq (5) 94 92 (by decide +kernel) (fun b11 => ?_) (fun b11 => ?_)
          · replace hf := ifp b11 hf
            refine Fx.run [(.iinc 4 1, 3, 4, 0, .int 1)] 97 (by decide +kernel) ?_
            show Fx q_Mo_tightens 6 sh 97 [some (.ref c), some (.int v1), some (.int v2), some (.int v3), some (.int (v4 + 1))] [] h10 none res
            refine Fx.goto (-40) 57 (by decide +kernel) ?_
            obtain rfl := Option.some.inj hf
            have hk : Fx q_Mo_tightens 6 sh 57 [some (.ref c), some (.int v1), some (.int v2), some (.int v3), some (.int (v4 + 1))] [] h10 none res := hk
            exact Fx.le hk (And.intro rfl (And.intro rfl (And.intro rfl (And.intro rfl (And.intro rfl trivial)))))
          · replace hf := ifn b11 hf
            refine Fx.run [(.iconst 1, 1, 0, 0, .int 1), (.istore_n 1, 1, 1, 0, .null), (.iinc 4 1, 3, 4, 0, .int 1)] 97 (by decide +kernel) ?_
            show Fx q_Mo_tightens 6 sh 97 [some (.ref c), some (.int 1), some (.int v2), some (.int v3), some (.int (v4 + 1))] [] h10 none res
            refine Fx.goto (-40) 57 (by decide +kernel) ?_
            obtain rfl := Option.some.inj hf
            have hk : Fx q_Mo_tightens 6 sh 57 [some (.ref c), some (.int 1), some (.int v2), some (.int v3), some (.int (v4 + 1))] [] h10 none res := hk
            exact Fx.le hk (And.intro rfl (And.intro rfl (And.intro rfl (And.intro rfl (And.intro rfl trivial)))))
set_option maxHeartbeats 4000000 in
set_option maxRecDepth 20000 in
theorem t_Mo_tightens_l48 (sh : Shp) (c : Nat) (hS : S_Mo sh c) (hp : HP) (v2 : Int32) (res : HP) : ∀ (s : (HP × Int32 × Int32)) (t : ((HP × Int32 × Int32) ⊕ ((HP × Int32) ⊕ HP))), f_Mo_tightens_l48 c hp v2 s = some t → (Kel (P_Mo_tightens_40 sh c  res) (Kel (P_Mo_tightens_32 sh c  res) (fun v => v = res))) t → P_Mo_tightens_48 sh c v2 res s := by
  refine loop_ind (P_Mo_tightens_48 sh c v2 res) (Kel (P_Mo_tightens_40 sh c  res) (Kel (P_Mo_tightens_32 sh c  res) (fun v => v = res))) ?_
  intro s t hf hk
  obtain ⟨hp, v1, v3⟩ := s
  replace hf : f_Mo_tightens_b48 c hp v2 v1 v3 = some t := hf
  show Fx q_Mo_tightens 6 sh 48 [some (.ref c), some (.int v1), some (.int v2), some (.int v3), none] [] hp none res
  unfold f_Mo_tightens_b48 at hf
  refine Fx.run [(.iload_n 3, 1, 3, 0, .null), (.bipush 6, 2, 0, 0, .int 6)] 51 (by decide +kernel) ?_
  show Fx q_Mo_tightens 6 sh 51 [some (.ref c), some (.int v1), some (.int v2), some (.int v3), none] [.int 6, .int v3] hp none res
  refine Fx.icmp_ge (55) 106 54 (by decide +kernel) (fun b4 => ?_) (fun b4 => ?_)
  · replace hf := ifp b4 hf
    replace hf := mpd hf
    obtain ⟨t, hf, rfl⟩ := hf
    refine Fx.run [(.iinc 2 1, 3, 2, 0, .int 1)] 109 (by decide +kernel) ?_
    show Fx q_Mo_tightens 6 sh 109 [some (.ref c), some (.int v1), some (.int (v2 + 1)), some (.int v3), none] [] hp none res
    refine Fx.goto (-69) 40 (by decide +kernel) ?_
    obtain rfl := Option.some.inj hf
    have hk : Fx q_Mo_tightens 6 sh 40 [some (.ref c), some (.int v1), some (.int (v2 + 1)), none, none] [] hp none res := hk
    exact Fx.le hk (And.intro rfl (And.intro rfl (And.intro rfl trivial)))
  · replace hf := ifn b4 hf
    refine Fx.run [(.iconst 0, 1, 0, 0, .int 0), (.istore 4, 2, 4, 0, .null)] 57 (by decide +kernel) ?_
    show Fx q_Mo_tightens 6 sh 57 [some (.ref c), some (.int v1), some (.int v2), some (.int v3), some (.int 0)] [] hp none res
    have hl := t_Mo_tightens_l57 sh c hS hp v2 v3 res (hp, v1, 0) _ hf hk
    have hl : Fx q_Mo_tightens 6 sh 57 [some (.ref c), some (.int v1), some (.int v2), some (.int v3), some (.int 0)] [] hp none res := hl
    exact Fx.le hl (And.intro rfl (And.intro rfl (And.intro rfl (And.intro rfl (And.intro rfl trivial)))))
set_option maxHeartbeats 4000000 in
set_option maxRecDepth 20000 in
theorem t_Mo_tightens_l40 (sh : Shp) (c : Nat) (hS : S_Mo sh c) (hp : HP)  (res : HP) : ∀ (s : (HP × Int32 × Int32)) (t : ((HP × Int32) ⊕ HP)), f_Mo_tightens_l40 c hp  s = some t → (Kel (P_Mo_tightens_32 sh c  res) (fun v => v = res)) t → P_Mo_tightens_40 sh c  res s := by
  refine loop_ind (P_Mo_tightens_40 sh c  res) (Kel (P_Mo_tightens_32 sh c  res) (fun v => v = res)) ?_
  intro s t hf hk
  obtain ⟨hp, v1, v2⟩ := s
  replace hf : f_Mo_tightens_b40 c hp  v1 v2 = some t := hf
  show Fx q_Mo_tightens 6 sh 40 [some (.ref c), some (.int v1), some (.int v2), none, none] [] hp none res
  unfold f_Mo_tightens_b40 at hf
  refine Fx.run [(.iload_n 2, 1, 2, 0, .null), (.bipush 6, 2, 0, 0, .int 6)] 43 (by decide +kernel) ?_
  show Fx q_Mo_tightens 6 sh 43 [some (.ref c), some (.int v1), some (.int v2), none, none] [.int 6, .int v2] hp none res
  refine Fx.icmp_ge (69) 112 46 (by decide +kernel) (fun b3 => ?_) (fun b3 => ?_)
  · replace hf := ifp b3 hf
    replace hf := mpd hf
    obtain ⟨t, hf, rfl⟩ := hf
    refine Fx.goto (-80) 32 (by decide +kernel) ?_
    obtain rfl := Option.some.inj hf
    have hk : Fx q_Mo_tightens 6 sh 32 [some (.ref c), some (.int v1), none, none, none] [] hp none res := hk
    exact Fx.le hk (And.intro rfl (And.intro rfl trivial))
  · replace hf := ifn b3 hf
    refine Fx.run [(.iconst 0, 1, 0, 0, .int 0), (.istore_n 3, 1, 3, 0, .null)] 48 (by decide +kernel) ?_
    show Fx q_Mo_tightens 6 sh 48 [some (.ref c), some (.int v1), some (.int v2), some (.int 0), none] [] hp none res
    have hl := t_Mo_tightens_l48 sh c hS hp v2 res (hp, v1, 0) _ hf hk
    have hl : Fx q_Mo_tightens 6 sh 48 [some (.ref c), some (.int v1), some (.int v2), some (.int 0), none] [] hp none res := hl
    exact Fx.le hl (And.intro rfl (And.intro rfl (And.intro rfl (And.intro rfl trivial))))
set_option maxHeartbeats 4000000 in
set_option maxRecDepth 20000 in
theorem t_Mo_tightens_l32 (sh : Shp) (c : Nat) (hS : S_Mo sh c) (hp : HP)  (res : HP) : ∀ (s : (HP × Int32)) (t : HP), f_Mo_tightens_l32 c hp  s = some t → (fun v => v = res) t → P_Mo_tightens_32 sh c  res s := by
  refine loop_ind (P_Mo_tightens_32 sh c  res) (fun v => v = res) ?_
  intro s t hf hk
  obtain ⟨hp, v1⟩ := s
  replace hf : f_Mo_tightens_b32 c hp  v1 = some t := hf
  show Fx q_Mo_tightens 6 sh 32 [some (.ref c), some (.int v1), none, none, none] [] hp none res
  unfold f_Mo_tightens_b32 at hf
  refine Fx.run [(.iload_n 1, 1, 1, 0, .null)] 33 (by decide +kernel) ?_
  show Fx q_Mo_tightens 6 sh 33 [some (.ref c), some (.int v1), none, none, none] [.int v1] hp none res
  refine Fx.if_eq (82) 115 36 (by decide +kernel) (fun b2 => ?_) (fun b2 => ?_)
  · replace hf := ifp b2 hf
    replace hf := mpd hf
    obtain ⟨t, hf, rfl⟩ := hf
    obtain rfl := Option.some.inj hf
    have hk : hp = res := hk
    subst hk
    exact Fx.vret (by decide +kernel) rfl
  · replace hf := ifn b2 hf
    refine Fx.run [(.iconst 0, 1, 0, 0, .int 0), (.istore_n 1, 1, 1, 0, .null), (.iconst 0, 1, 0, 0, .int 0), (.istore_n 2, 1, 2, 0, .null)] 40 (by decide +kernel) ?_
    show Fx q_Mo_tightens 6 sh 40 [some (.ref c), some (.int 0), some (.int 0), none, none] [] hp none res
    have hl := t_Mo_tightens_l40 sh c hS hp  res (hp, 0, 0) _ hf hk
    have hl : Fx q_Mo_tightens 6 sh 40 [some (.ref c), some (.int 0), some (.int 0), none, none] [] hp none res := hl
    exact Fx.le hl (And.intro rfl (And.intro rfl (And.intro rfl trivial)))
set_option maxHeartbeats 4000000 in
set_option maxRecDepth 20000 in
theorem t_Mo_tightens_l2 (sh : Shp) (c : Nat) (hS : S_Mo sh c) (hp : HP)  (res : HP) : ∀ (s : (HP × Int32)) (t : HP), f_Mo_tightens_l2 c hp  s = some t → (fun v => v = res) t → P_Mo_tightens_2 sh c  res s := by
  refine loop_ind (P_Mo_tightens_2 sh c  res) (fun v => v = res) ?_
  intro s t hf hk
  obtain ⟨hp, v1⟩ := s
  replace hf : f_Mo_tightens_b2 c hp  v1 = some t := hf
  show Fx q_Mo_tightens 6 sh 2 [some (.ref c), some (.int v1), none, none, none] [] hp none res
  unfold f_Mo_tightens_b2 at hf
  refine Fx.run [(.iload_n 1, 1, 1, 0, .null), (.bipush 36, 2, 0, 0, .int 36)] 5 (by decide +kernel) ?_
  show Fx q_Mo_tightens 6 sh 5 [some (.ref c), some (.int v1), none, none, none] [.int 36, .int v1] hp none res
  refine Fx.icmp_ge (25) 30 8 (by decide +kernel) (fun b1 => ?_) (fun b1 => ?_)
  · replace hf := ifp b1 hf
    replace hf := mpd hf
    obtain ⟨t, hf, rfl⟩ := hf
    refine Fx.run [(.iconst 1, 1, 0, 0, .int 1), (.istore_n 1, 1, 1, 0, .null)] 32 (by decide +kernel) ?_
    show Fx q_Mo_tightens 6 sh 32 [some (.ref c), some (.int 1), none, none, none] [] hp none res
    have hl := t_Mo_tightens_l32 sh c hS hp  res (hp, 1) _ hf hk
    have hl : Fx q_Mo_tightens 6 sh 32 [some (.ref c), some (.int 1), none, none, none] [] hp none res := hl
    exact Fx.le hl (And.intro rfl (And.intro rfl trivial))
  · replace hf := ifn b1 hf
    replace hf := gd hf
    obtain ⟨g12, hf⟩ := hf
    replace hf := gd hf
    obtain ⟨g13, hf⟩ := hf
    refine Fx.run [(.aload_n 0, 1, 0, 0, .null), (.getfield 37, 3, 9, 13, .ref 10), (.iload_n 1, 1, 1, 0, .null), (.aload_n 0, 1, 0, 0, .null), (.getfield 9, 3, 9, 0, .ref 1), (.sipush 4064, 3, 0, 0, .int 4064), (.iload_n 1, 1, 1, 0, .null), (.iadd, 1, 0, 0, .null), (.iaload, 1, 4100, 0, .null), (.iastore, 1, 36, 0, .null), (.iinc 1 1, 3, 1, 0, .int 1)] 27 (by decide +kernel) ?_
    show isK sh c 9 ∧ isK sh c 9 ∧ (isA sh (c + 1) 10 4100 ∧ inb (4064 + v1) 4100) ∧ (isA sh (c + 10) 10 36 ∧ inb v1 36) ∧ Fx q_Mo_tightens 6 sh 27 [some (.ref c), some (.int (v1 + 1)), none, none, none] [] (upI hp (c + 10) (ix v1) (hp.1 (c + 1) (ix (4064 + v1)))) none res
    refine ⟨hS.1, hS.1, ⟨hS.2.1, g12⟩, ⟨hS.2.2.2.2.2.2.2.2.2.2, g13⟩, ?_⟩
    refine Fx.goto (-25) 2 (by decide +kernel) ?_
    obtain rfl := Option.some.inj hf
    have hk : Fx q_Mo_tightens 6 sh 2 [some (.ref c), some (.int (v1 + 1)), none, none, none] [] (upI hp (c + 10) (ix v1) (hp.1 (c + 1) (ix (4064 + v1)))) none res := hk
    exact Fx.le hk (And.intro rfl (And.intro rfl trivial))
set_option maxHeartbeats 4000000 in
set_option maxRecDepth 20000 in
theorem t_Mo_tightens (sh : Shp) (c : Nat) (hS : S_Mo sh c) (hp : HP)  (res : HP) (hf : f_Mo_tightens c hp  = some res) : Ex 6 q_Mo_tightens sh [.ref c] hp none res := by
  refine Ex.of [some (.ref c), none, none, none, none] rfl (Nat.le_of_ble_eq_true rfl) (by decide +kernel) rfl ?_
  obtain ⟨t, hk⟩ : ∃ t, t = res := ⟨res, rfl⟩
  rw [← hk] at hf
  unfold f_Mo_tightens at hf
  refine Fx.run [(.iconst 0, 1, 0, 0, .int 0), (.istore_n 1, 1, 1, 0, .null)] 2 (by decide +kernel) ?_
  show Fx q_Mo_tightens 6 sh 2 [some (.ref c), some (.int 0), none, none, none] [] hp none res
  have hl := t_Mo_tightens_l2 sh c hS hp  res (hp, 0) _ hf hk
  have hl : Fx q_Mo_tightens 6 sh 2 [some (.ref c), some (.int 0), none, none, none] [] hp none res := hl
  exact Fx.le hl (And.intro rfl (And.intro rfl trivial))
set_option maxHeartbeats 4000000 in
set_option maxRecDepth 20000 in
theorem t_Mo_between (sh : Shp) (c : Nat) (hS : S_Mo sh c) (hp : HP) (v1 : Int32) (v2 : Int32) (v3 : Int32) (res : (HP × Int32)) (hf : f_Mo_between c hp v1 v2 v3 = some res) : Ex 7 q_Mo_between sh [.ref c, .int v1, .int v2, .int v3] hp (some (.int res.2)) res.1 := by
  refine Ex.of [some (.ref c), some (.int v1), some (.int v2), some (.int v3)] rfl (Nat.le_of_ble_eq_true rfl) (by decide +kernel) rfl ?_
  obtain ⟨t, hk⟩ : ∃ t, t = res := ⟨res, rfl⟩
  rw [← hk] at hf
  unfold f_Mo_between at hf
  refine Fx.run [(.iload_n 1, 1, 1, 0, .null)] 1 (by decide +kernel) ?_
  show Fx q_Mo_between 7 sh 1 [some (.ref c), some (.int v1), some (.int v2), some (.int v3)] [.int v1] hp (some (.int res.2)) res.1
  replace hf := bnd hf
  obtain ⟨r1, hr1, hf⟩ := hf
  refine Fx.callS (rr := (some (.int r1))) (hp1 := hp) [.int v1] [] lk_9_277 (by decide +kernel) (t_Mo_isName sh hp v1 r1 hr1) ⟨Nat.le_of_ble_eq_true rfl, Nat.le_of_ble_eq_true rfl⟩ rfl (Nat.le_of_ble_eq_true rfl) ?_
  show Fx q_Mo_between 7 sh 4 [some (.ref c), some (.int v1), some (.int v2), some (.int v3)] [.int r1] hp (some (.int res.2)) res.1
  refine Fx.if_eq (10) 14 7 (by decide +kernel) (fun b2 => ?_) (fun b2 => ?_)
  · replace hf := ifp b2 hf
    refine Fx.run [(.iconst (-1), 1, 0, 0, .int (-1))] 15 (by decide +kernel) ?_
    show Fx q_Mo_between 7 sh 15 [some (.ref c), some (.int v1), some (.int v2), some (.int v3)] [.int (-1)] hp (some (.int res.2)) res.1
    obtain rfl := Option.some.inj hf
    have hk : (hp, (-1)) = res := hk
    subst hk
    exact Fx.iret (by decide +kernel) rfl
  · replace hf := ifn b2 hf
    refine Fx.run [(.iload_n 2, 1, 2, 0, .null)] 8 (by decide +kernel) ?_
    show Fx q_Mo_between 7 sh 8 [some (.ref c), some (.int v1), some (.int v2), some (.int v3)] [.int v2] hp (some (.int res.2)) res.1
    replace hf := bnd hf
    obtain ⟨r3, hr3, hf⟩ := hf
    refine Fx.callS (rr := (some (.int r3))) (hp1 := hp) [.int v2] [] lk_9_277 (by decide +kernel) (t_Mo_isName sh hp v2 r3 hr3) ⟨Nat.le_of_ble_eq_true rfl, Nat.le_of_ble_eq_true rfl⟩ rfl (Nat.le_of_ble_eq_true rfl) ?_
    show Fx q_Mo_between 7 sh 11 [some (.ref c), some (.int v1), some (.int v2), some (.int v3)] [.int r3] hp (some (.int res.2)) res.1
    refine Fx.if_ne (5) 16 14 (by decide +kernel) (fun b4 => ?_) (fun b4 => ?_)
    · replace hf := ifn b4 hf
      refine Fx.run [(.iload_n 3, 1, 3, 0, .null)] 17 (by decide +kernel) ?_
      show Fx q_Mo_between 7 sh 17 [some (.ref c), some (.int v1), some (.int v2), some (.int v3)] [.int v3] hp (some (.int res.2)) res.1
      refine Fx.if_ne (19) 36 20 (by decide +kernel) (fun b5 => ?_) (fun b5 => ?_)
      · replace hf := ifn b5 hf
        refine Fx.run [(.aload_n 0, 1, 0, 0, .null)] 37 (by decide +kernel) ?_
        show Fx q_Mo_between 7 sh 37 [some (.ref c), some (.int v1), some (.int v2), some (.int v3)] [.ref c] hp (some (.int res.2)) res.1
        replace hf := bnd hf
        obtain ⟨h7, hr6, hf⟩ := hf
        refine Fx.callV (rr := none) (hp1 := h7) [] [] lk_9_286 (by decide +kernel) (t_Mo_tightens sh c (hS) hp h7 hr6) ⟨Nat.le_of_ble_eq_true rfl, Nat.le_of_ble_eq_true rfl⟩ (hS).1 (by decide) rfl (Nat.le_of_ble_eq_true rfl) ?_
        show Fx q_Mo_between 7 sh 40 [some (.ref c), some (.int v1), some (.int v2), some (.int v3)] [] h7 (some (.int res.2)) res.1
        replace hf := gd hf
        obtain ⟨g8, hf⟩ := hf
        refine Fx.run [(.aload_n 0, 1, 0, 0, .null), (.getfield 37, 3, 9, 13, .ref 10), (.bipush 6, 2, 0, 0, .int 6), (.iload_n 1, 1, 1, 0, .null), (.imul, 1, 0, 0, .null), (.iload_n 2, 1, 2, 0, .null), (.iadd, 1, 0, 0, .null), (.iaload, 1, 36, 0, .null)] 51 (by decide +kernel) ?_
        show isK sh c 9 ∧ (isA sh (c + 10) 10 36 ∧ inb ((6 * v1) + v2) 36) ∧ Fx q_Mo_between 7 sh 51 [some (.ref c), some (.int v1), some (.int v2), some (.int v3)] [.int (h7.1 (c + 10) (ix ((6 * v1) + v2)))] h7 (some (.int res.2)) res.1
        refine ⟨hS.1, ⟨hS.2.2.2.2.2.2.2.2.2.2, g8⟩, ?_⟩
        obtain rfl := Option.some.inj hf
        have hk : (h7, (h7.1 (c + 10) (ix ((6 * v1) + v2)))) = res := hk
        subst hk
        exact Fx.iret (by decide +kernel) rfl
      · replace hf := ifp b5 hf
        replace hf := gd hf
        obtain ⟨g9, hf⟩ := hf
        refine Fx.run [(.aload_n 0, 1, 0, 0, .null), (.getfield 9, 3, 9, 0, .ref 1), (.sipush 4064, 3, 0, 0, .int 4064), (.bipush 6, 2, 0, 0, .int 6), (.iload_n 1, 1, 1, 0, .null), (.imul, 1, 0, 0, .null), (.iadd, 1, 0, 0, .null), (.iload_n 2, 1, 2, 0, .null), (.iadd, 1, 0, 0, .null), (.iaload, 1, 4100, 0, .null)] 35 (by decide +kernel) ?_
        show isK sh c 9 ∧ (isA sh (c + 1) 10 4100 ∧ inb ((4064 + (6 * v1)) + v2) 4100) ∧ Fx q_Mo_between 7 sh 35 [some (.ref c), some (.int v1), some (.int v2), some (.int v3)] [.int (hp.1 (c + 1) (ix ((4064 + (6 * v1)) + v2)))] hp (some (.int res.2)) res.1
        refine ⟨hS.1, ⟨hS.2.1, g9⟩, ?_⟩
        obtain rfl := Option.some.inj hf
        have hk : (hp, (hp.1 (c + 1) (ix ((4064 + (6 * v1)) + v2)))) = res := hk
        subst hk
        exact Fx.iret (by decide +kernel) rfl
    · replace hf := ifp b4 hf
      refine Fx.run [(.iconst (-1), 1, 0, 0, .int (-1))] 15 (by decide +kernel) ?_
      show Fx q_Mo_between 7 sh 15 [some (.ref c), some (.int v1), some (.int v2), some (.int v3)] [.int (-1)] hp (some (.int res.2)) res.1
      obtain rfl := Option.some.inj hf
      have hk : (hp, (-1)) = res := hk
      subst hk
      exact Fx.iret (by decide +kernel) rfl
abbrev P_Mo_sound_6 (sh : Shp) (c : Nat) (hp : HP)  (res : (HP × Int32)) : (Int32) → Prop := fun s => Fx q_Mo_sound 7 sh 6 [some (.ref c), some (.int s)] [] hp (some (.int res.2)) res.1
set_option maxHeartbeats 4000000 in
set_option maxRecDepth 20000 in
theorem t_Mo_sound_l6 (sh : Shp) (c : Nat) (hS : S_Mo sh c) (hp : HP)  (res : (HP × Int32)) : ∀ (s : (Int32)) (t : (HP × Int32)), f_Mo_sound_l6 c hp  s = some t → (fun v => v = res) t → P_Mo_sound_6 sh c hp  res s := by
  refine loop_ind (P_Mo_sound_6 sh c hp  res) (fun v => v = res) ?_
  intro s t hf hk
  revert hf hk; revert s; intro v1 hf hk
  replace hf : f_Mo_sound_b6 c hp  v1 = some t := hf
  show Fx q_Mo_sound 7 sh 6 [some (.ref c), some (.int v1)] [] hp (some (.int res.2)) res.1
  unfold f_Mo_sound_b6 at hf
  refine Fx.run [(.iload_n 1, 1, 1, 0, .null), (.bipush 36, 2, 0, 0, .int 36)] 9 (by decide +kernel) ?_
  show Fx q_Mo_sound 7 sh 9 [some (.ref c), some (.int v1)] [.int 36, .int v1] hp (some (.int res.2)) res.1
  refine Fx.icmp_ge (20) 29 12 (by decide +kernel) (fun b3 => ?_) (fun b3 => ?_)
  · replace hf := ifp b3 hf
    replace hf := mpd hf
    obtain ⟨t, hf, rfl⟩ := hf
    refine Fx.run [(.iconst 1, 1, 0, 0, .int 1)] 30 (by decide +kernel) ?_
    show Fx q_Mo_sound 7 sh 30 [some (.ref c), some (.int v1)] [.int 1] hp (some (.int res.2)) res.1
    obtain rfl := Option.some.inj hf
    have hk : (hp, 1) = res := hk
    subst hk
    exact Fx.iret (by decide +kernel) rfl
  · replace hf := ifn b3 hf
    replace hf := gd hf
    obtain ⟨g4, hf⟩ := hf
    refine Fx.run [(.aload_n 0, 1, 0, 0, .null), (.getfield 37, 3, 9, 13, .ref 10), (.iload_n 1, 1, 1, 0, .null), (.iaload, 1, 36, 0, .null)] 18 (by decide +kernel) ?_
    show isK sh c 9 ∧ (isA sh (c + 10) 10 36 ∧ inb v1 36) ∧ Fx q_Mo_sound 7 sh 18 [some (.ref c), some (.int v1)] [.int (hp.1 (c + 10) (ix v1))] hp (some (.int res.2)) res.1
    refine ⟨hS.1, ⟨hS.2.2.2.2.2.2.2.2.2.2, g4⟩, ?_⟩
    refine Fx.if_ne (5) 23 21 (by decide +kernel) (fun b5 => ?_) (fun b5 => ?_)
    · replace hf := ifn b5 hf
      refine Fx.run [(.iinc 1 1, 3, 1, 0, .int 1)] 26 (by decide +kernel) ?_
      show Fx q_Mo_sound 7 sh 26 [some (.ref c), some (.int (v1 + 1))] [] hp (some (.int res.2)) res.1
      refine Fx.goto (-20) 6 (by decide +kernel) ?_
      obtain rfl := Option.some.inj hf
      have hk : Fx q_Mo_sound 7 sh 6 [some (.ref c), some (.int (v1 + 1))] [] hp (some (.int res.2)) res.1 := hk
      exact Fx.le hk (And.intro rfl (And.intro rfl trivial))
    · replace hf := ifp b5 hf
      replace hf := mpd hf
      obtain ⟨t, hf, rfl⟩ := hf
      refine Fx.run [(.iconst 0, 1, 0, 0, .int 0)] 22 (by decide +kernel) ?_
      show Fx q_Mo_sound 7 sh 22 [some (.ref c), some (.int v1)] [.int 0] hp (some (.int res.2)) res.1
      obtain rfl := Option.some.inj hf
      have hk : (hp, 0) = res := hk
      subst hk
      exact Fx.iret (by decide +kernel) rfl
set_option maxHeartbeats 4000000 in
set_option maxRecDepth 20000 in
theorem t_Mo_sound (sh : Shp) (c : Nat) (hS : S_Mo sh c) (hp : HP)  (res : (HP × Int32)) (hf : f_Mo_sound c hp  = some res) : Ex 7 q_Mo_sound sh [.ref c] hp (some (.int res.2)) res.1 := by
  refine Ex.of [some (.ref c), none] rfl (Nat.le_of_ble_eq_true rfl) (by decide +kernel) rfl ?_
  obtain ⟨t, hk⟩ : ∃ t, t = res := ⟨res, rfl⟩
  rw [← hk] at hf
  unfold f_Mo_sound at hf
  refine Fx.run [(.aload_n 0, 1, 0, 0, .null)] 1 (by decide +kernel) ?_
  show Fx q_Mo_sound 7 sh 1 [some (.ref c), none] [.ref c] hp (some (.int res.2)) res.1
  replace hf := bnd hf
  obtain ⟨h2, hr1, hf⟩ := hf
  refine Fx.callV (rr := none) (hp1 := h2) [] [] lk_9_286 (by decide +kernel) (t_Mo_tightens sh c (hS) hp h2 hr1) ⟨Nat.le_of_ble_eq_true rfl, Nat.le_of_ble_eq_true rfl⟩ (hS).1 (by decide) rfl (Nat.le_of_ble_eq_true rfl) ?_
  show Fx q_Mo_sound 7 sh 4 [some (.ref c), none] [] h2 (some (.int res.2)) res.1
  refine Fx.run [(.iconst 0, 1, 0, 0, .int 0), (.istore_n 1, 1, 1, 0, .null)] 6 (by decide +kernel) ?_
  show Fx q_Mo_sound 7 sh 6 [some (.ref c), some (.int 0)] [] h2 (some (.int res.2)) res.1
  have hl := t_Mo_sound_l6 sh c hS h2  res 0 _ hf hk
  have hl : Fx q_Mo_sound 7 sh 6 [some (.ref c), some (.int 0)] [] h2 (some (.int res.2)) res.1 := hl
  exact Fx.le hl (And.intro rfl (And.intro rfl trivial))
abbrev P_Mo_lay_33 (sh : Shp) (c : Nat) (v1 : Int32) (v2 : Int32) (res : (HP × Int32)) : (HP × Int32) → Prop := fun s => Fx q_Mo_lay 5 sh 33 [some (.ref c), some (.int v1), some (.int v2), some (.int s.2), none] [] s.1 (some (.int res.2)) res.1
abbrev P_Mo_lay_42 (sh : Shp) (c : Nat) (v1 : Int32) (v2 : Int32) (v3 : Int32) (res : (HP × Int32)) : (HP × Int32) → Prop := fun s => Fx q_Mo_lay 5 sh 42 [some (.ref c), some (.int v1), some (.int v2), some (.int v3), some (.int s.2)] [] s.1 (some (.int res.2)) res.1
set_option maxHeartbeats 4000000 in
set_option maxRecDepth 20000 in
theorem t_Mo_lay_j74 (sh : Shp) (c : Nat) (hS : S_Mo sh c) (hp : HP) (v1 : Int32) (v2 : Int32) (v3 : Int32) (v4 : Int32) (s0 : Int32) (s1 : Int32) (s2 : Int32) (s3 : Nat) (hs3 : S_Mo sh s3) (res : (HP × Int32)) (t : ((HP × Int32) ⊕ ((HP × Int32) ⊕ (HP × Int32)))) (hf : f_Mo_lay_j74 c hp v1 v2 v3 v4 s0 s1 s2 s3 = some t) (hk : (Kel (P_Mo_lay_42 sh c v1 v2 v3 res) (Kel (P_Mo_lay_33 sh c v1 v2 res) (fun v => v = res))) t) : Fx q_Mo_lay 5 sh 74 [some (.ref c), some (.int v1), some (.int v2), some (.int v3), some (.int v4)] [.int s0, .int s1, .int s2, .ref s3] hp (some (.int res.2)) res.1 := by
  unfold f_Mo_lay_j74 at hf
  replace hf := bnd hf
  obtain ⟨h11, hr10, hf⟩ := hf
  refine Fx.callV (rr := none) (hp1 := h11) [.int s2, .int s1, .int s0] [] lk_9_280 (by decide +kernel) (t_Mo_ties sh s3 (hs3) hp s2 s1 s0 h11 hr10) ⟨Nat.le_of_ble_eq_true rfl, Nat.le_of_ble_eq_true rfl⟩ (hs3).1 (by decide) rfl (Nat.le_of_ble_eq_true rfl) ?_
  show Fx q_Mo_lay 5 sh 77 [some (.ref c), some (.int v1), some (.int v2), some (.int v3), some (.int v4)] [] h11 (some (.int res.2)) res.1
  refine Fx.run [(.iinc 4 1, 3, 4, 0, .int 1)] 80 (by decide +kernel) ?_
  show Fx q_Mo_lay 5 sh 80 [some (.ref c), some (.int v1), some (.int v2), some (.int v3), some (.int (v4 + 1))] [] h11 (some (.int res.2)) res.1
  refine Fx.goto (-38) 42 (by decide +kernel) ?_
  obtain rfl := Option.some.inj hf
  have hk : Fx q_Mo_lay 5 sh 42 [some (.ref c), some (.int v1), some (.int v2), some (.int v3), some (.int (v4 + 1))] [] h11 (some (.int res.2)) res.1 := hk
  exact Fx.le hk (And.intro rfl (And.intro rfl (And.intro rfl (And.intro rfl (And.intro rfl trivial)))))
set_option maxHeartbeats 4000000 in
set_option maxRecDepth 20000 in
theorem t_Mo_lay_l42 (sh : Shp) (c : Nat) (hS : S_Mo sh c) (hp : HP) (v1 : Int32) (v2 : Int32) (v3 : Int32) (res : (HP × Int32)) : ∀ (s : (HP × Int32)) (t : ((HP × Int32) ⊕ (HP × Int32))), f_Mo_lay_l42 c hp v1 v2 v3 s = some t → (Kel (P_Mo_lay_33 sh c v1 v2 res) (fun v => v = res)) t → P_Mo_lay_42 sh c v1 v2 v3 res s := by
  refine loop_ind (P_Mo_lay_42 sh c v1 v2 v3 res) (Kel (P_Mo_lay_33 sh c v1 v2 res) (fun v => v = res)) ?_
  intro s t hf hk
  obtain ⟨hp, v4⟩ := s
  replace hf : f_Mo_lay_b42 c hp v1 v2 v3 v4 = some t := hf
  show Fx q_Mo_lay 5 sh 42 [some (.ref c), some (.int v1), some (.int v2), some (.int v3), some (.int v4)] [] hp (some (.int res.2)) res.1
  unfold f_Mo_lay_b42 at hf
  refine Fx.run [(.iload 4, 2, 4, 0, .null), (.iload_n 3, 1, 3, 0, .null)] 45 (by decide +kernel) ?_
  show Fx q_Mo_lay 5 sh 45 [some (.ref c), some (.int v1), some (.int v2), some (.int v3), some (.int v4)] [.int v3, .int v4] hp (some (.int res.2)) res.1
  refine Fx.icmp_ge (38) 83 48 (by decide +kernel) (fun b8 => ?_) (fun b8 => ?_)
  · replace hf := ifp b8 hf
    replace hf := mpd hf
    obtain ⟨t, hf, rfl⟩ := hf
    refine Fx.run [(.iinc 3 1, 3, 3, 0, .int 1)] 86 (by decide +kernel) ?_
    show Fx q_Mo_lay 5 sh 86 [some (.ref c), some (.int v1), some (.int v2), some (.int (v3 + 1)), some (.int v4)] [] hp (some (.int res.2)) res.1
    refine Fx.goto (-53) 33 (by decide +kernel) ?_
    obtain rfl := Option.some.inj hf
    have hk : Fx q_Mo_lay 5 sh 33 [some (.ref c), some (.int v1), some (.int v2), some (.int (v3 + 1)), none] [] hp (some (.int res.2)) res.1 := hk
    exact Fx.le hk (And.intro rfl (And.intro rfl (And.intro rfl (And.intro rfl trivial))))
  · replace hf := ifn b8 hf
    refine Fx.run [(.aload_n 0, 1, 0, 0, .null), (.iload_n 3, 1, 3, 0, .null), (.iload 4, 2, 4, 0, .null), (.iload_n 3, 1, 3, 0, .null), (.iload_n 2, 1, 2, 0, .null)] 54 (by decide +kernel) ?_
    show Fx q_Mo_lay 5 sh 54 [some (.ref c), some (.int v1), some (.int v2), some (.int v3), some (.int v4)] [.int v2, .int v3, .int v4, .int v3, .ref c] hp (some (.int res.2)) res.1
    refine Fx.icmp_ge (17) 71 57 (by decide +kernel) (fun b9 => ?_) (fun b9 => ?_)
    · replace hf := ifp b9 hf
      refine Fx.run [(.sipush 8191, 3, 0, 0, .int 8191)] 74 (by decide +kernel) ?_
      show Fx q_Mo_lay 5 sh 74 [some (.ref c), some (.int v1), some (.int v2), some (.int v3), some (.int v4)] [.int 8191, .int v4, .int v3, .ref c] hp (some (.int res.2)) res.1
      have hl := t_Mo_lay_j74 sh c hS hp v1 v2 v3 v4 8191 v4 v3 c (hS) res _ hf hk
      exact Fx.le hl (And.intro rfl (And.intro rfl (And.intro rfl (And.intro rfl (And.intro rfl trivial)))))
    · replace hf := ifn b9 hf
      refine Fx.run [(.iconst 1, 1, 0, 0, .int 1), (.aload_n 0, 1, 0, 0, .null), (.iload_n 1, 1, 1, 0, .null), (.iload_n 3, 1, 3, 0, .null), (.iload_n 1, 1, 1, 0, .null), (.iload 4, 2, 4, 0, .null)] 64 (by decide +kernel) ?_
      show Fx q_Mo_lay 5 sh 64 [some (.ref c), some (.int v1), some (.int v2), some (.int v3), some (.int v4)] [.int v4, .int v1, .int v3, .int v1, .ref c, .int 1, .int v4, .int v3, .ref c] hp (some (.int res.2)) res.1
      replace hf := bnd hf
      obtain ⟨r12, hr12, hf⟩ := hf
      refine Fx.callV (rr := (some (.int r12))) (hp1 := hp) [.int v1, .int v3, .int v1, .int v4] [.int 1, .int v4, .int v3, .ref c] lk_9_66 (by decide +kernel) (t_Mo_kindBetween sh c (hS) hp v1 v3 v1 v4 r12 hr12) ⟨Nat.le_of_ble_eq_true rfl, Nat.le_of_ble_eq_true rfl⟩ (hS).1 (by decide) rfl (Nat.le_of_ble_eq_true rfl) ?_
      show Fx q_Mo_lay 5 sh 67 [some (.ref c), some (.int v1), some (.int v2), some (.int v3), some (.int v4)] [.int r12, .int 1, .int v4, .int v3, .ref c] hp (some (.int res.2)) res.1
      refine Fx.run [(.ishl, 1, 0, 0, .null)] 68 (by decide +kernel) ?_
      show Fx q_Mo_lay 5 sh 68 [some (.ref c), some (.int v1), some (.int v2), some (.int v3), some (.int v4)] [.int (1 <<< (r12 &&& 31)), .int v4, .int v3, .ref c] hp (some (.int res.2)) res.1
      refine Fx.goto (6) 74 (by decide +kernel) ?_
      have hl := t_Mo_lay_j74 sh c hS hp v1 v2 v3 v4 (1 <<< (r12 &&& 31)) v4 v3 c (hS) res _ hf hk
      exact Fx.le hl (And.intro rfl (And.intro rfl (And.intro rfl (And.intro rfl (And.intro rfl trivial)))))
set_option maxHeartbeats 4000000 in
set_option maxRecDepth 20000 in
theorem t_Mo_lay_l33 (sh : Shp) (c : Nat) (hS : S_Mo sh c) (hp : HP) (v1 : Int32) (v2 : Int32) (res : (HP × Int32)) : ∀ (s : (HP × Int32)) (t : (HP × Int32)), f_Mo_lay_l33 c hp v1 v2 s = some t → (fun v => v = res) t → P_Mo_lay_33 sh c v1 v2 res s := by
  refine loop_ind (P_Mo_lay_33 sh c v1 v2 res) (fun v => v = res) ?_
  intro s t hf hk
  obtain ⟨hp, v3⟩ := s
  replace hf : f_Mo_lay_b33 c hp v1 v2 v3 = some t := hf
  show Fx q_Mo_lay 5 sh 33 [some (.ref c), some (.int v1), some (.int v2), some (.int v3), none] [] hp (some (.int res.2)) res.1
  unfold f_Mo_lay_b33 at hf
  refine Fx.run [(.iload_n 3, 1, 3, 0, .null), (.bipush 6, 2, 0, 0, .int 6)] 36 (by decide +kernel) ?_
  show Fx q_Mo_lay 5 sh 36 [some (.ref c), some (.int v1), some (.int v2), some (.int v3), none] [.int 6, .int v3] hp (some (.int res.2)) res.1
  refine Fx.icmp_ge (53) 89 39 (by decide +kernel) (fun b7 => ?_) (fun b7 => ?_)
  · replace hf := ifp b7 hf
    replace hf := mpd hf
    obtain ⟨t, hf, rfl⟩ := hf
    refine Fx.run [(.iconst 1, 1, 0, 0, .int 1)] 90 (by decide +kernel) ?_
    show Fx q_Mo_lay 5 sh 90 [some (.ref c), some (.int v1), some (.int v2), some (.int v3), none] [.int 1] hp (some (.int res.2)) res.1
    obtain rfl := Option.some.inj hf
    have hk : (hp, 1) = res := hk
    subst hk
    exact Fx.zret (by decide +kernel) rfl (Or.inr rfl)
  · replace hf := ifn b7 hf
    refine Fx.run [(.iconst 0, 1, 0, 0, .int 0), (.istore 4, 2, 4, 0, .null)] 42 (by decide +kernel) ?_
    show Fx q_Mo_lay 5 sh 42 [some (.ref c), some (.int v1), some (.int v2), some (.int v3), some (.int 0)] [] hp (some (.int res.2)) res.1
    have hl := t_Mo_lay_l42 sh c hS hp v1 v2 v3 res (hp, 0) _ hf hk
    have hl : Fx q_Mo_lay 5 sh 42 [some (.ref c), some (.int v1), some (.int v2), some (.int v3), some (.int 0)] [] hp (some (.int res.2)) res.1 := hl
    exact Fx.le hl (And.intro rfl (And.intro rfl (And.intro rfl (And.intro rfl (And.intro rfl trivial)))))
set_option maxHeartbeats 4000000 in
set_option maxRecDepth 20000 in
theorem t_Mo_lay (sh : Shp) (c : Nat) (hS : S_Mo sh c) (hp : HP) (v1 : Int32) (v2 : Int32) (res : (HP × Int32)) (hf : f_Mo_lay c hp v1 v2 = some res) : Ex 5 q_Mo_lay sh [.ref c, .int v1, .int v2] hp (some (.int res.2)) res.1 := by
  refine Ex.of [some (.ref c), some (.int v1), some (.int v2), none, none] rfl (Nat.le_of_ble_eq_true rfl) (by decide +kernel) rfl ?_
  obtain ⟨t, hk⟩ : ∃ t, t = res := ⟨res, rfl⟩
  rw [← hk] at hf
  unfold f_Mo_lay at hf
  refine Fx.run [(.iload_n 1, 1, 1, 0, .null)] 1 (by decide +kernel) ?_
  show Fx q_Mo_lay 5 sh 1 [some (.ref c), some (.int v1), some (.int v2), none, none] [.int v1] hp (some (.int res.2)) res.1
  replace hf := bnd hf
  obtain ⟨r1, hr1, hf⟩ := hf
  refine Fx.callS (rr := (some (.int r1))) (hp1 := hp) [.int v1] [] lk_9_52 (by decide +kernel) (t_Mo_isSide sh hp v1 r1 hr1) ⟨Nat.le_of_ble_eq_true rfl, Nat.le_of_ble_eq_true rfl⟩ rfl (Nat.le_of_ble_eq_true rfl) ?_
  show Fx q_Mo_lay 5 sh 4 [some (.ref c), some (.int v1), some (.int v2), none, none] [.int r1] hp (some (.int res.2)) res.1
  refine Fx.if_eq (25) 29 7 (by decide +kernel) (fun b2 => ?_) (fun b2 => ?_)
  · replace hf := ifp b2 hf
    refine Fx.run [(.iconst 0, 1, 0, 0, .int 0)] 30 (by decide +kernel) ?_
    show Fx q_Mo_lay 5 sh 30 [some (.ref c), some (.int v1), some (.int v2), none, none] [.int 0] hp (some (.int res.2)) res.1
    obtain rfl := Option.some.inj hf
    have hk : (hp, 0) = res := hk
    subst hk
    exact Fx.zret (by decide +kernel) rfl (Or.inl rfl)
  · replace hf := ifn b2 hf
    refine Fx.run [(.iload_n 2, 1, 2, 0, .null), (.iconst 2, 1, 0, 0, .int 2), (.bipush 6, 2, 0, 0, .int 6)] 11 (by decide +kernel) ?_
    show Fx q_Mo_lay 5 sh 11 [some (.ref c), some (.int v1), some (.int v2), none, none] [.int 6, .int 2, .int v2] hp (some (.int res.2)) res.1
    replace hf := bnd hf
    obtain ⟨r3, hr3, hf⟩ := hf
    refine Fx.callS (rr := (some (.int r3))) (hp1 := hp) [.int v2, .int 2, .int 6] [] lk_9_48 (by decide +kernel) (t_Mo_isIn sh hp v2 2 6 r3 hr3) ⟨Nat.le_of_ble_eq_true rfl, Nat.le_of_ble_eq_true rfl⟩ rfl (Nat.le_of_ble_eq_true rfl) ?_
    show Fx q_Mo_lay 5 sh 14 [some (.ref c), some (.int v1), some (.int v2), none, none] [.int r3] hp (some (.int res.2)) res.1
    refine Fx.if_eq (15) 29 17 (by decide +kernel) (fun b4 => ?_) (fun b4 => ?_)
    · replace hf := ifp b4 hf
      refine Fx.run [(.iconst 0, 1, 0, 0, .int 0)] 30 (by decide +kernel) ?_
      show Fx q_Mo_lay 5 sh 30 [some (.ref c), some (.int v1), some (.int v2), none, none] [.int 0] hp (some (.int res.2)) res.1
      obtain rfl := Option.some.inj hf
      have hk : (hp, 0) = res := hk
      subst hk
      exact Fx.zret (by decide +kernel) rfl (Or.inl rfl)
    · replace hf := ifn b4 hf
      replace hf := gd hf
      obtain ⟨g5, hf⟩ := hf
      refine Fx.run [(.aload_n 0, 1, 0, 0, .null), (.getfield 9, 3, 9, 0, .ref 1), (.iconst 2, 1, 0, 0, .int 2), (.iload_n 1, 1, 1, 0, .null), (.iadd, 1, 0, 0, .null), (.iaload, 1, 4100, 0, .null), (.iload_n 2, 1, 2, 0, .null)] 26 (by decide +kernel) ?_
      show isK sh c 9 ∧ (isA sh (c + 1) 10 4100 ∧ inb (2 + v1) 4100) ∧ Fx q_Mo_lay 5 sh 26 [some (.ref c), some (.int v1), some (.int v2), none, none] [.int v2, .int (hp.1 (c + 1) (ix (2 + v1)))] hp (some (.int res.2)) res.1
      refine ⟨hS.1, ⟨hS.2.1, g5⟩, ?_⟩
      refine Fx.icmp_ge (5) 31 29 (by decide +kernel) (fun b6 => ?_) (fun b6 => ?_)
      · replace hf := ifp b6 hf
        refine Fx.run [(.iconst 0, 1, 0, 0, .int 0), (.istore_n 3, 1, 3, 0, .null)] 33 (by decide +kernel) ?_
        show Fx q_Mo_lay 5 sh 33 [some (.ref c), some (.int v1), some (.int v2), some (.int 0), none] [] hp (some (.int res.2)) res.1
        have hl := t_Mo_lay_l33 sh c hS hp v1 v2 res (hp, 0) _ hf hk
        have hl : Fx q_Mo_lay 5 sh 33 [some (.ref c), some (.int v1), some (.int v2), some (.int 0), none] [] hp (some (.int res.2)) res.1 := hl
        exact Fx.le hl (And.intro rfl (And.intro rfl (And.intro rfl (And.intro rfl trivial))))
      · replace hf := ifn b6 hf
        refine Fx.run [(.iconst 0, 1, 0, 0, .int 0)] 30 (by decide +kernel) ?_
        show Fx q_Mo_lay 5 sh 30 [some (.ref c), some (.int v1), some (.int v2), none, none] [.int 0] hp (some (.int res.2)) res.1
        obtain rfl := Option.some.inj hf
        have hk : (hp, 0) = res := hk
        subst hk
        exact Fx.zret (by decide +kernel) rfl (Or.inl rfl)
abbrev P_Mo_image_15 (sh : Shp) (c : Nat) (v1 : Int32) (res : (HP × Int32)) : (HP × Int32) → Prop := fun s => Fx q_Mo_image 1 sh 15 [some (.ref c), some (.int v1), some (.int s.2)] [] s.1 (some (.int res.2)) res.1
set_option maxHeartbeats 4000000 in
set_option maxRecDepth 20000 in
theorem t_Mo_image_l15 (sh : Shp) (c : Nat) (hS : S_Mo sh c) (hp : HP) (v1 : Int32) (res : (HP × Int32)) : ∀ (s : (HP × Int32)) (t : (HP × Int32)), f_Mo_image_l15 c hp v1 s = some t → (fun v => v = res) t → P_Mo_image_15 sh c v1 res s := by
  refine loop_ind (P_Mo_image_15 sh c v1 res) (fun v => v = res) ?_
  intro s t hf hk
  obtain ⟨hp, v2⟩ := s
  replace hf : f_Mo_image_b15 c hp v1 v2 = some t := hf
  show Fx q_Mo_image 1 sh 15 [some (.ref c), some (.int v1), some (.int v2)] [] hp (some (.int res.2)) res.1
  unfold f_Mo_image_b15 at hf
  refine Fx.run [(.iload_n 2, 1, 2, 0, .null), (.sipush 4100, 3, 0, 0, .int 4100)] 19 (by decide +kernel) ?_
  show Fx q_Mo_image 1 sh 19 [some (.ref c), some (.int v1), some (.int v2)] [.int 4100, .int v2] hp (some (.int res.2)) res.1
  refine Fx.icmp_ge (40) 59 22 (by decide +kernel) (fun b2 => ?_) (fun b2 => ?_)
  · replace hf := ifp b2 hf
    replace hf := mpd hf
    obtain ⟨t, hf, rfl⟩ := hf
    refine Fx.run [(.aload_n 0, 1, 0, 0, .null), (.iconst 1, 1, 0, 0, .int 1), (.putfield 289, 3, 9, 2, .int 1), (.iconst 1, 1, 0, 0, .int 1)] 65 (by decide +kernel) ?_
    show isK sh c 9 ∧ ((1 : Int32) = 0 ∨ (1 : Int32) = 1) ∧ Fx q_Mo_image 1 sh 65 [some (.ref c), some (.int v1), some (.int v2)] [.int 1] (upI hp c 2 1) (some (.int res.2)) res.1
    refine ⟨hS.1, (Or.inr rfl), ?_⟩
    obtain rfl := Option.some.inj hf
    have hk : ((upI hp c 2 1), 1) = res := hk
    subst hk
    exact Fx.zret (by decide +kernel) rfl (Or.inr rfl)
  · replace hf := ifn b2 hf
    refine Fx.run [(.iload_n 1, 1, 1, 0, .null)] 23 (by decide +kernel) ?_
    show Fx q_Mo_image 1 sh 23 [some (.ref c), some (.int v1), some (.int v2)] [.int v1] hp (some (.int res.2)) res.1
    refine Fx.if_eq (18) 41 26 (by decide +kernel) (fun b3 => ?_) (fun b3 => ?_)
    · replace hf := ifp b3 hf
      replace hf := gd hf
      obtain ⟨g4, hf⟩ := hf
      replace hf := gd hf
      obtain ⟨g5, hf⟩ := hf
      refine Fx.run [(.aload_n 0, 1, 0, 0, .null), (.getfield 9, 3, 9, 0, .ref 1), (.iload_n 2, 1, 2, 0, .null), (.aload_n 0, 1, 0, 0, .null), (.getfield 13, 3, 9, 1, .ref 2), (.iload_n 2, 1, 2, 0, .null), (.iaload, 1, 4100, 0, .null), (.iastore, 1, 4100, 0, .null), (.iinc 2 1, 3, 2, 0, .int 1)] 56 (by decide +kernel) ?_
      show isK sh c 9 ∧ isK sh c 9 ∧ (isA sh (c + 2) 10 4100 ∧ inb v2 4100) ∧ (isA sh (c + 1) 10 4100 ∧ inb v2 4100) ∧ Fx q_Mo_image 1 sh 56 [some (.ref c), some (.int v1), some (.int (v2 + 1))] [] (upI hp (c + 1) (ix v2) (hp.1 (c + 2) (ix v2))) (some (.int res.2)) res.1
      refine ⟨hS.1, hS.1, ⟨hS.2.2.1, g4⟩, ⟨hS.2.1, g5⟩, ?_⟩
      refine Fx.goto (-41) 15 (by decide +kernel) ?_
      obtain rfl := Option.some.inj hf
      have hk : Fx q_Mo_image 1 sh 15 [some (.ref c), some (.int v1), some (.int (v2 + 1))] [] (upI hp (c + 1) (ix v2) (hp.1 (c + 2) (ix v2))) (some (.int res.2)) res.1 := hk
      exact Fx.le hk (And.intro rfl (And.intro rfl (And.intro rfl trivial)))
    · replace hf := ifn b3 hf
      replace hf := gd hf
      obtain ⟨g6, hf⟩ := hf
      replace hf := gd hf
      obtain ⟨g7, hf⟩ := hf
      refine Fx.run [(.aload_n 0, 1, 0, 0, .null), (.getfield 13, 3, 9, 1, .ref 2), (.iload_n 2, 1, 2, 0, .null), (.aload_n 0, 1, 0, 0, .null), (.getfield 9, 3, 9, 0, .ref 1), (.iload_n 2, 1, 2, 0, .null), (.iaload, 1, 4100, 0, .null), (.iastore, 1, 4100, 0, .null)] 38 (by decide +kernel) ?_
      show isK sh c 9 ∧ isK sh c 9 ∧ (isA sh (c + 1) 10 4100 ∧ inb v2 4100) ∧ (isA sh (c + 2) 10 4100 ∧ inb v2 4100) ∧ Fx q_Mo_image 1 sh 38 [some (.ref c), some (.int v1), some (.int v2)] [] (upI hp (c + 2) (ix v2) (hp.1 (c + 1) (ix v2))) (some (.int res.2)) res.1
      refine ⟨hS.1, hS.1, ⟨hS.2.1, g6⟩, ⟨hS.2.2.1, g7⟩, ?_⟩
      refine Fx.goto (15) 53 (by decide +kernel) ?_
      refine Fx.run [(.iinc 2 1, 3, 2, 0, .int 1)] 56 (by decide +kernel) ?_
      show Fx q_Mo_image 1 sh 56 [some (.ref c), some (.int v1), some (.int (v2 + 1))] [] (upI hp (c + 2) (ix v2) (hp.1 (c + 1) (ix v2))) (some (.int res.2)) res.1
      refine Fx.goto (-41) 15 (by decide +kernel) ?_
      obtain rfl := Option.some.inj hf
      have hk : Fx q_Mo_image 1 sh 15 [some (.ref c), some (.int v1), some (.int (v2 + 1))] [] (upI hp (c + 2) (ix v2) (hp.1 (c + 1) (ix v2))) (some (.int res.2)) res.1 := hk
      exact Fx.le hk (And.intro rfl (And.intro rfl (And.intro rfl trivial)))
set_option maxHeartbeats 4000000 in
set_option maxRecDepth 20000 in
theorem t_Mo_image (sh : Shp) (c : Nat) (hS : S_Mo sh c) (hp : HP) (v1 : Int32) (res : (HP × Int32)) (hf : f_Mo_image c hp v1 = some res) : Ex 1 q_Mo_image sh [.ref c, .int v1] hp (some (.int res.2)) res.1 := by
  refine Ex.of [some (.ref c), some (.int v1), none] rfl (Nat.le_of_ble_eq_true rfl) (by decide +kernel) rfl ?_
  obtain ⟨t, hk⟩ : ∃ t, t = res := ⟨res, rfl⟩
  rw [← hk] at hf
  unfold f_Mo_image at hf
  refine Fx.run [(.iload_n 1, 1, 1, 0, .null)] 1 (by decide +kernel) ?_
  show Fx q_Mo_image 1 sh 1 [some (.ref c), some (.int v1), none] [.int v1] hp (some (.int res.2)) res.1
  refine Fx.if_ne (12) 13 4 (by decide +kernel) (fun b1 => ?_) (fun b1 => ?_)
  · replace hf := ifn b1 hf
    refine Fx.run [(.iconst 0, 1, 0, 0, .int 0), (.istore_n 2, 1, 2, 0, .null)] 15 (by decide +kernel) ?_
    show Fx q_Mo_image 1 sh 15 [some (.ref c), some (.int v1), some (.int 0)] [] hp (some (.int res.2)) res.1
    have hl := t_Mo_image_l15 sh c hS hp v1 res (hp, 0) _ hf hk
    have hl : Fx q_Mo_image 1 sh 15 [some (.ref c), some (.int v1), some (.int 0)] [] hp (some (.int res.2)) res.1 := hl
    exact Fx.le hl (And.intro rfl (And.intro rfl (And.intro rfl trivial)))
  · replace hf := ifp b1 hf
    refine Fx.run [(.aload_n 0, 1, 0, 0, .null), (.getfield 289, 3, 9, 2, .null)] 8 (by decide +kernel) ?_
    show isK sh c 9 ∧ Fx q_Mo_image 1 sh 8 [some (.ref c), some (.int v1), none] [.int (hp.1 c 2)] hp (some (.int res.2)) res.1
    refine ⟨hS.1, ?_⟩
    refine Fx.if_ne (5) 13 11 (by decide +kernel) (fun b8 => ?_) (fun b8 => ?_)
    · replace hf := ifn b8 hf
      refine Fx.run [(.iconst 0, 1, 0, 0, .int 0), (.istore_n 2, 1, 2, 0, .null)] 15 (by decide +kernel) ?_
      show Fx q_Mo_image 1 sh 15 [some (.ref c), some (.int v1), some (.int 0)] [] hp (some (.int res.2)) res.1
      have hl := t_Mo_image_l15 sh c hS hp v1 res (hp, 0) _ hf hk
      have hl : Fx q_Mo_image 1 sh 15 [some (.ref c), some (.int v1), some (.int 0)] [] hp (some (.int res.2)) res.1 := hl
      exact Fx.le hl (And.intro rfl (And.intro rfl (And.intro rfl trivial)))
    · replace hf := ifp b8 hf
      refine Fx.run [(.iconst 0, 1, 0, 0, .int 0)] 12 (by decide +kernel) ?_
      show Fx q_Mo_image 1 sh 12 [some (.ref c), some (.int v1), none] [.int 0] hp (some (.int res.2)) res.1
      obtain rfl := Option.some.inj hf
      have hk : (hp, 0) = res := hk
      subst hk
      exact Fx.zret (by decide +kernel) rfl (Or.inl rfl)
abbrev P_Mo_mostPartners_4 (sh : Shp) (c : Nat) (hp : HP)  (res : Int32) : (Int32 × Int32) → Prop := fun s => Fx q_Mo_mostPartners 8 sh 4 [some (.ref c), some (.int s.1), some (.int s.2), none] [] hp (some (.int res)) hp
abbrev P_Mo_mostPartners_11 (sh : Shp) (c : Nat) (hp : HP) (v2 : Int32) (res : Int32) : (Int32 × Int32) → Prop := fun s => Fx q_Mo_mostPartners 8 sh 11 [some (.ref c), some (.int s.1), some (.int v2), some (.int s.2)] [] hp (some (.int res)) hp
set_option maxHeartbeats 4000000 in
set_option maxRecDepth 20000 in
theorem t_Mo_mostPartners_l11 (sh : Shp) (c : Nat) (hS : S_Mo sh c) (hp : HP) (v2 : Int32) (res : Int32) : ∀ (s : (Int32 × Int32)) (t : ((Int32 × Int32) ⊕ Int32)), f_Mo_mostPartners_l11 c hp v2 s = some t → (Kel (P_Mo_mostPartners_4 sh c hp  res) (fun v => v = res)) t → P_Mo_mostPartners_11 sh c hp v2 res s := by
  refine loop_ind (P_Mo_mostPartners_11 sh c hp v2 res) (Kel (P_Mo_mostPartners_4 sh c hp  res) (fun v => v = res)) ?_
  intro s t hf hk
  obtain ⟨v1, v3⟩ := s
  replace hf : f_Mo_mostPartners_b11 c hp v2 v1 v3 = some t := hf
  show Fx q_Mo_mostPartners 8 sh 11 [some (.ref c), some (.int v1), some (.int v2), some (.int v3)] [] hp (some (.int res)) hp
  unfold f_Mo_mostPartners_b11 at hf
  replace hf := gd hf
  obtain ⟨g2, hf⟩ := hf
  refine Fx.run [(.iload_n 3, 1, 3, 0, .null), (.aload_n 0, 1, 0, 0, .null), (.getfield 9, 3, 9, 0, .ref 1), (.iconst 2, 1, 0, 0, .int 2), (.iload_n 2, 1, 2, 0, .null), (.iadd, 1, 0, 0, .null), (.iaload, 1, 4100, 0, .null)] 20 (by decide +kernel) ?_
  show isK sh c 9 ∧ (isA sh (c + 1) 10 4100 ∧ inb (2 + v2) 4100) ∧ Fx q_Mo_mostPartners 8 sh 20 [some (.ref c), some (.int v1), some (.int v2), some (.int v3)] [.int (hp.1 (c + 1) (ix (2 + v2))), .int v3] hp (some (.int res)) hp
  refine ⟨hS.1, ⟨hS.2.1, g2⟩, ?_⟩
  refine Fx.icmp_ge (20) 40 23 (by decide +kernel) (fun b3 => ?_) (fun b3 => ?_)
  · replace hf := ifp b3 hf
    replace hf := mpd hf
    obtain ⟨t, hf, rfl⟩ := hf
    refine Fx.run [(.iinc 2 1, 3, 2, 0, .int 1)] 43 (by decide +kernel) ?_
    show Fx q_Mo_mostPartners 8 sh 43 [some (.ref c), some (.int v1), some (.int (v2 + 1)), some (.int v3)] [] hp (some (.int res)) hp
    refine Fx.goto (-39) 4 (by decide +kernel) ?_
    obtain rfl := Option.some.inj hf
    have hk : Fx q_Mo_mostPartners 8 sh 4 [some (.ref c), some (.int v1), some (.int (v2 + 1)), none] [] hp (some (.int res)) hp := hk
    exact Fx.le hk (And.intro rfl (And.intro rfl (And.intro rfl trivial)))
  · replace hf := ifn b3 hf
    refine Fx.run [(.iload_n 1, 1, 1, 0, .null), (.aload_n 0, 1, 0, 0, .null), (.iload_n 2, 1, 2, 0, .null), (.iload_n 3, 1, 3, 0, .null)] 27 (by decide +kernel) ?_
    show Fx q_Mo_mostPartners 8 sh 27 [some (.ref c), some (.int v1), some (.int v2), some (.int v3)] [.int v3, .int v2, .ref c, .int v1] hp (some (.int res)) hp
    replace hf := bnd hf
    obtain ⟨r4, hr4, hf⟩ := hf
    refine Fx.callV (rr := (some (.int r4))) (hp1 := hp) [.int v2, .int v3] [.int v1] lk_9_204 (by decide +kernel) (t_Mo_partners sh c (hS) hp v2 v3 r4 hr4) ⟨Nat.le_of_ble_eq_true rfl, Nat.le_of_ble_eq_true rfl⟩ (hS).1 (by decide) rfl (Nat.le_of_ble_eq_true rfl) ?_
    show Fx q_Mo_mostPartners 8 sh 30 [some (.ref c), some (.int v1), some (.int v2), some (.int v3)] [.int r4, .int v1] hp (some (.int res)) hp
    replace hf := bnd hf
    obtain ⟨r5, hr5, hf⟩ := hf
    refine Fx.callS (rr := (some (.int r5))) (hp1 := hp) [.int v1, .int r4] [] lk_9_133 (by decide +kernel) (t_Mo_more sh hp v1 r4 r5 hr5) ⟨Nat.le_of_ble_eq_true rfl, Nat.le_of_ble_eq_true rfl⟩ rfl (Nat.le_of_ble_eq_true rfl) ?_
    show Fx q_Mo_mostPartners 8 sh 33 [some (.ref c), some (.int v1), some (.int v2), some (.int v3)] [.int r5] hp (some (.int res)) hp
    refine Fx.run [(.istore_n 1, 1, 1, 0, .null), (.iinc 3 1, 3, 3, 0, .int 1)] 37 (by decide +kernel) ?_
    show Fx q_Mo_mostPartners 8 sh 37 [some (.ref c), some (.int r5), some (.int v2), some (.int (v3 + 1))] [] hp (some (.int res)) hp
    refine Fx.goto (-26) 11 (by decide +kernel) ?_
    obtain rfl := Option.some.inj hf
    have hk : Fx q_Mo_mostPartners 8 sh 11 [some (.ref c), some (.int r5), some (.int v2), some (.int (v3 + 1))] [] hp (some (.int res)) hp := hk
    exact Fx.le hk (And.intro rfl (And.intro rfl (And.intro rfl (And.intro rfl trivial))))
set_option maxHeartbeats 4000000 in
set_option maxRecDepth 20000 in
theorem t_Mo_mostPartners_l4 (sh : Shp) (c : Nat) (hS : S_Mo sh c) (hp : HP)  (res : Int32) : ∀ (s : (Int32 × Int32)) (t : Int32), f_Mo_mostPartners_l4 c hp  s = some t → (fun v => v = res) t → P_Mo_mostPartners_4 sh c hp  res s := by
  refine loop_ind (P_Mo_mostPartners_4 sh c hp  res) (fun v => v = res) ?_
  intro s t hf hk
  obtain ⟨v1, v2⟩ := s
  replace hf : f_Mo_mostPartners_b4 c hp  v1 v2 = some t := hf
  show Fx q_Mo_mostPartners 8 sh 4 [some (.ref c), some (.int v1), some (.int v2), none] [] hp (some (.int res)) hp
  unfold f_Mo_mostPartners_b4 at hf
  refine Fx.run [(.iload_n 2, 1, 2, 0, .null), (.iconst 2, 1, 0, 0, .int 2)] 6 (by decide +kernel) ?_
  show Fx q_Mo_mostPartners 8 sh 6 [some (.ref c), some (.int v1), some (.int v2), none] [.int 2, .int v2] hp (some (.int res)) hp
  refine Fx.icmp_ge (40) 46 9 (by decide +kernel) (fun b1 => ?_) (fun b1 => ?_)
  · replace hf := ifp b1 hf
    replace hf := mpd hf
    obtain ⟨t, hf, rfl⟩ := hf
    refine Fx.run [(.iload_n 1, 1, 1, 0, .null)] 47 (by decide +kernel) ?_
    show Fx q_Mo_mostPartners 8 sh 47 [some (.ref c), some (.int v1), some (.int v2), none] [.int v1] hp (some (.int res)) hp
    obtain rfl := Option.some.inj hf
    have hk : v1 = res := hk
    subst hk
    exact Fx.iret (by decide +kernel) rfl
  · replace hf := ifn b1 hf
    refine Fx.run [(.iconst 0, 1, 0, 0, .int 0), (.istore_n 3, 1, 3, 0, .null)] 11 (by decide +kernel) ?_
    show Fx q_Mo_mostPartners 8 sh 11 [some (.ref c), some (.int v1), some (.int v2), some (.int 0)] [] hp (some (.int res)) hp
    have hl := t_Mo_mostPartners_l11 sh c hS hp v2 res (v1, 0) _ hf hk
    have hl : Fx q_Mo_mostPartners 8 sh 11 [some (.ref c), some (.int v1), some (.int v2), some (.int 0)] [] hp (some (.int res)) hp := hl
    exact Fx.le hl (And.intro rfl (And.intro rfl (And.intro rfl (And.intro rfl trivial))))
set_option maxHeartbeats 4000000 in
set_option maxRecDepth 20000 in
theorem t_Mo_mostPartners (sh : Shp) (c : Nat) (hS : S_Mo sh c) (hp : HP)  (res : Int32) (hf : f_Mo_mostPartners c hp  = some res) : Ex 8 q_Mo_mostPartners sh [.ref c] hp (some (.int res)) hp := by
  refine Ex.of [some (.ref c), none, none, none] rfl (Nat.le_of_ble_eq_true rfl) (by decide +kernel) rfl ?_
  obtain ⟨t, hk⟩ : ∃ t, t = res := ⟨res, rfl⟩
  rw [← hk] at hf
  unfold f_Mo_mostPartners at hf
  refine Fx.run [(.iconst 0, 1, 0, 0, .int 0), (.istore_n 1, 1, 1, 0, .null), (.iconst 0, 1, 0, 0, .int 0), (.istore_n 2, 1, 2, 0, .null)] 4 (by decide +kernel) ?_
  show Fx q_Mo_mostPartners 8 sh 4 [some (.ref c), some (.int 0), some (.int 0), none] [] hp (some (.int res)) hp
  have hl := t_Mo_mostPartners_l4 sh c hS hp  res (0, 0) _ hf hk
  have hl : Fx q_Mo_mostPartners 8 sh 4 [some (.ref c), some (.int 0), some (.int 0), none] [] hp (some (.int res)) hp := hl
  exact Fx.le hl (And.intro rfl (And.intro rfl (And.intro rfl trivial)))
abbrev P_Mo_runs_4 (sh : Shp) (c : Nat) (hp : HP) (v1 : Int32) (res : Int32) : (Int32 × Int32) → Prop := fun s => Fx q_Mo_runs 3 sh 4 [some (.ref c), some (.int v1), some (.int s.1), some (.int s.2), none, none] [] hp (some (.int res)) hp
abbrev P_Mo_runs_15 (sh : Shp) (c : Nat) (hp : HP) (v1 : Int32) (v2 : Int32) (v3 : Int32) (res : Int32) : (Int32 × Int32) → Prop := fun s => Fx q_Mo_runs 3 sh 15 [some (.ref c), some (.int v1), some (.int v2), some (.int v3), some (.int s.1), some (.int s.2)] [] hp (some (.int res)) hp
set_option maxHeartbeats 4000000 in
set_option maxRecDepth 20000 in
theorem t_Mo_runs_l15 (sh : Shp) (c : Nat) (hS : S_Mo sh c) (hp : HP) (v1 : Int32) (v2 : Int32) (v3 : Int32) (res : Int32) : ∀ (s : (Int32 × Int32)) (t : ((Int32 × Int32) ⊕ Int32)), f_Mo_runs_l15 c hp v1 v2 v3 s = some t → (Kel (P_Mo_runs_4 sh c hp v1 res) (fun v => v = res)) t → P_Mo_runs_15 sh c hp v1 v2 v3 res s := by
  refine loop_ind (P_Mo_runs_15 sh c hp v1 v2 v3 res) (Kel (P_Mo_runs_4 sh c hp v1 res) (fun v => v = res)) ?_
  intro s t hf hk
  obtain ⟨v4, v5⟩ := s
  replace hf : f_Mo_runs_b15 c hp v1 v2 v3 v4 v5 = some t := hf
  show Fx q_Mo_runs 3 sh 15 [some (.ref c), some (.int v1), some (.int v2), some (.int v3), some (.int v4), some (.int v5)] [] hp (some (.int res)) hp
  unfold f_Mo_runs_b15 at hf
  replace hf := gd hf
  obtain ⟨g2, hf⟩ := hf
  refine Fx.run [(.iload 5, 2, 5, 0, .null), (.aload_n 0, 1, 0, 0, .null), (.getfield 9, 3, 9, 0, .ref 1), (.iconst 2, 1, 0, 0, .int 2), (.iload_n 1, 1, 1, 0, .null), (.iadd, 1, 0, 0, .null), (.iaload, 1, 4100, 0, .null)] 25 (by decide +kernel) ?_
  show isK sh c 9 ∧ (isA sh (c + 1) 10 4100 ∧ inb (2 + v1) 4100) ∧ Fx q_Mo_runs 3 sh 25 [some (.ref c), some (.int v1), some (.int v2), some (.int v3), some (.int v4), some (.int v5)] [.int (hp.1 (c + 1) (ix (2 + v1))), .int v5] hp (some (.int res)) hp
  refine ⟨hS.1, ⟨hS.2.1, g2⟩, ?_⟩
  refine Fx.icmp_ge (33) 58 28 (by decide +kernel) (fun b3 => ?_) (fun b3 => ?_)
  · replace hf := ifp b3 hf
    replace hf := mpd hf
    obtain ⟨t, hf, rfl⟩ := hf
    refine Fx.run [(.iload_n 2, 1, 2, 0, .null), (.iload 4, 2, 4, 0, .null)] 61 (by decide +kernel) ?_
    show Fx q_Mo_runs 3 sh 61 [some (.ref c), some (.int v1), some (.int v2), some (.int v3), some (.int v4), some (.int v5)] [.int v4, .int v2] hp (some (.int res)) hp
    refine Fx.if_eq (7) 68 64 (by decide +kernel) (fun b4 => ?_) (fun b4 => ?_)
    · replace hf := ifp b4 hf
      refine Fx.run [(.iconst 0, 1, 0, 0, .int 0), (.iadd, 1, 0, 0, .null), (.istore_n 2, 1, 2, 0, .null), (.iinc 3 1, 3, 3, 0, .int 1)] 74 (by decide +kernel) ?_
      show Fx q_Mo_runs 3 sh 74 [some (.ref c), some (.int v1), some (.int (v2 + 0)), some (.int (v3 + 1)), some (.int v4), some (.int v5)] [] hp (some (.int res)) hp
      refine Fx.goto (-70) 4 (by decide +kernel) ?_
      obtain rfl := Option.some.inj hf
      have hk : Fx q_Mo_runs 3 sh 4 [some (.ref c), some (.int v1), some (.int (v2 + 0)), some (.int (v3 + 1)), none, none] [] hp (some (.int res)) hp := hk
      exact Fx.le hk (And.intro rfl (And.intro rfl (And.intro rfl (And.intro rfl trivial))))
    · replace hf := ifn b4 hf
      refine Fx.run [(.iconst 1, 1, 0, 0, .int 1)] 65 (by decide +kernel) ?_
      show Fx q_Mo_runs 3 sh 65 [some (.ref c), some (.int v1), some (.int v2), some (.int v3), some (.int v4), some (.int v5)] [.int 1, .int v2] hp (some (.int res)) hp
      refine Fx.goto (4) 69 (by decide +kernel) ?_
      refine Fx.run [(.iadd, 1, 0, 0, .null), (.istore_n 2, 1, 2, 0, .null), (.iinc 3 1, 3, 3, 0, .int 1)] 74 (by decide +kernel) ?_
      show Fx q_Mo_runs 3 sh 74 [some (.ref c), some (.int v1), some (.int (v2 + 1)), some (.int (v3 + 1)), some (.int v4), some (.int v5)] [] hp (some (.int res)) hp
      refine Fx.goto (-70) 4 (by decide +kernel) ?_
      obtain rfl := Option.some.inj hf
      have hk : Fx q_Mo_runs 3 sh 4 [some (.ref c), some (.int v1), some (.int (v2 + 1)), some (.int (v3 + 1)), none, none] [] hp (some (.int res)) hp := hk
      exact Fx.le hk (And.intro rfl (And.intro rfl (And.intro rfl (And.intro rfl trivial))))
  · replace hf := ifn b3 hf
    refine Fx.run [(.iload 4, 2, 4, 0, .null)] 30 (by decide +kernel) ?_
    show Fx q_Mo_runs 3 sh 30 [some (.ref c), some (.int v1), some (.int v2), some (.int v3), some (.int v4), some (.int v5)] [.int v4] hp (some (.int res)) hp
    refine Fx.if_ne (15) 45 33 (by decide +kernel) (fun b5 => ?_) (fun b5 => ?_)
    · replace hf := ifn b5 hf
      refine Fx.run [(.iconst 1, 1, 0, 0, .int 1)] 46 (by decide +kernel) ?_
      show Fx q_Mo_runs 3 sh 46 [some (.ref c), some (.int v1), some (.int v2), some (.int v3), some (.int v4), some (.int v5)] [.int 1] hp (some (.int res)) hp
      refine Fx.goto (4) 50 (by decide +kernel) ?_
      refine Fx.run [(.istore 4, 2, 4, 0, .null), (.iinc 5 1, 3, 5, 0, .int 1)] 55 (by decide +kernel) ?_
      show Fx q_Mo_runs 3 sh 55 [some (.ref c), some (.int v1), some (.int v2), some (.int v3), some (.int 1), some (.int (v5 + 1))] [] hp (some (.int res)) hp
      refine Fx.goto (-40) 15 (by decide +kernel) ?_
      obtain rfl := Option.some.inj hf
      have hk : Fx q_Mo_runs 3 sh 15 [some (.ref c), some (.int v1), some (.int v2), some (.int v3), some (.int 1), some (.int (v5 + 1))] [] hp (some (.int res)) hp := hk
      exact Fx.le hk (And.intro rfl (And.intro rfl (And.intro rfl (And.intro rfl (And.intro rfl (And.intro rfl trivial))))))
    · replace hf := ifp b5 hf
      refine Fx.run [(.aload_n 0, 1, 0, 0, .null), (.iload_n 1, 1, 1, 0, .null), (.iload 5, 2, 5, 0, .null), (.iconst 0, 1, 0, 0, .int 0)] 38 (by decide +kernel) ?_
      show Fx q_Mo_runs 3 sh 38 [some (.ref c), some (.int v1), some (.int v2), some (.int v3), some (.int v4), some (.int v5)] [.int 0, .int v5, .int v1, .ref c] hp (some (.int res)) hp
      replace hf := bnd hf
      obtain ⟨r6, hr6, hf⟩ := hf
      refine Fx.callV (rr := (some (.int r6))) (hp1 := hp) [.int v1, .int v5, .int 0] [] lk_9_44 (by decide +kernel) (t_Mo_of sh c (hS) hp v1 v5 0 r6 hr6) ⟨Nat.le_of_ble_eq_true rfl, Nat.le_of_ble_eq_true rfl⟩ (hS).1 (by decide) rfl (Nat.le_of_ble_eq_true rfl) ?_
      show Fx q_Mo_runs 3 sh 41 [some (.ref c), some (.int v1), some (.int v2), some (.int v3), some (.int v4), some (.int v5)] [.int r6] hp (some (.int res)) hp
      refine Fx.run [(.iload_n 3, 1, 3, 0, .null)] 42 (by decide +kernel) ?_
      show Fx q_Mo_runs 3 sh 42 [some (.ref c), some (.int v1), some (.int v2), some (.int v3), some (.int v4), some (.int v5)] [.int v3, .int r6] hp (some (.int res)) hp
      refine Fx.icmp_ne (7) 49 45 (by decide +kernel) (fun b7 => ?_) (fun b7 => ?_)
      · replace hf := ifn b7 hf
        refine Fx.run [(.iconst 0, 1, 0, 0, .int 0), (.istore 4, 2, 4, 0, .null), (.iinc 5 1, 3, 5, 0, .int 1)] 55 (by decide +kernel) ?_
        show Fx q_Mo_runs 3 sh 55 [some (.ref c), some (.int v1), some (.int v2), some (.int v3), some (.int 0), some (.int (v5 + 1))] [] hp (some (.int res)) hp
        refine Fx.goto (-40) 15 (by decide +kernel) ?_
        obtain rfl := Option.some.inj hf
        have hk : Fx q_Mo_runs 3 sh 15 [some (.ref c), some (.int v1), some (.int v2), some (.int v3), some (.int 0), some (.int (v5 + 1))] [] hp (some (.int res)) hp := hk
        exact Fx.le hk (And.intro rfl (And.intro rfl (And.intro rfl (And.intro rfl (And.intro rfl (And.intro rfl trivial))))))
      · replace hf := ifp b7 hf
        refine Fx.run [(.iconst 1, 1, 0, 0, .int 1)] 46 (by decide +kernel) ?_
        show Fx q_Mo_runs 3 sh 46 [some (.ref c), some (.int v1), some (.int v2), some (.int v3), some (.int v4), some (.int v5)] [.int 1] hp (some (.int res)) hp
        refine Fx.goto (4) 50 (by decide +kernel) ?_
        refine Fx.run [(.istore 4, 2, 4, 0, .null), (.iinc 5 1, 3, 5, 0, .int 1)] 55 (by decide +kernel) ?_
        show Fx q_Mo_runs 3 sh 55 [some (.ref c), some (.int v1), some (.int v2), some (.int v3), some (.int 1), some (.int (v5 + 1))] [] hp (some (.int res)) hp
        refine Fx.goto (-40) 15 (by decide +kernel) ?_
        obtain rfl := Option.some.inj hf
        have hk : Fx q_Mo_runs 3 sh 15 [some (.ref c), some (.int v1), some (.int v2), some (.int v3), some (.int 1), some (.int (v5 + 1))] [] hp (some (.int res)) hp := hk
        exact Fx.le hk (And.intro rfl (And.intro rfl (And.intro rfl (And.intro rfl (And.intro rfl (And.intro rfl trivial))))))
set_option maxHeartbeats 4000000 in
set_option maxRecDepth 20000 in
theorem t_Mo_runs_l4 (sh : Shp) (c : Nat) (hS : S_Mo sh c) (hp : HP) (v1 : Int32) (res : Int32) : ∀ (s : (Int32 × Int32)) (t : Int32), f_Mo_runs_l4 c hp v1 s = some t → (fun v => v = res) t → P_Mo_runs_4 sh c hp v1 res s := by
  refine loop_ind (P_Mo_runs_4 sh c hp v1 res) (fun v => v = res) ?_
  intro s t hf hk
  obtain ⟨v2, v3⟩ := s
  replace hf : f_Mo_runs_b4 c hp v1 v2 v3 = some t := hf
  show Fx q_Mo_runs 3 sh 4 [some (.ref c), some (.int v1), some (.int v2), some (.int v3), none, none] [] hp (some (.int res)) hp
  unfold f_Mo_runs_b4 at hf
  refine Fx.run [(.iload_n 3, 1, 3, 0, .null), (.iconst 4, 1, 0, 0, .int 4)] 6 (by decide +kernel) ?_
  show Fx q_Mo_runs 3 sh 6 [some (.ref c), some (.int v1), some (.int v2), some (.int v3), none, none] [.int 4, .int v3] hp (some (.int res)) hp
  refine Fx.icmp_ge (71) 77 9 (by decide +kernel) (fun b1 => ?_) (fun b1 => ?_)
  · replace hf := ifp b1 hf
    replace hf := mpd hf
    obtain ⟨t, hf, rfl⟩ := hf
    refine Fx.run [(.iload_n 2, 1, 2, 0, .null)] 78 (by decide +kernel) ?_
    show Fx q_Mo_runs 3 sh 78 [some (.ref c), some (.int v1), some (.int v2), some (.int v3), none, none] [.int v2] hp (some (.int res)) hp
    obtain rfl := Option.some.inj hf
    have hk : v2 = res := hk
    subst hk
    exact Fx.iret (by decide +kernel) rfl
  · replace hf := ifn b1 hf
    refine Fx.run [(.iconst 0, 1, 0, 0, .int 0), (.istore 4, 2, 4, 0, .null), (.iconst 0, 1, 0, 0, .int 0), (.istore 5, 2, 5, 0, .null)] 15 (by decide +kernel) ?_
    show Fx q_Mo_runs 3 sh 15 [some (.ref c), some (.int v1), some (.int v2), some (.int v3), some (.int 0), some (.int 0)] [] hp (some (.int res)) hp
    have hl := t_Mo_runs_l15 sh c hS hp v1 v2 v3 res (0, 0) _ hf hk
    have hl : Fx q_Mo_runs 3 sh 15 [some (.ref c), some (.int v1), some (.int v2), some (.int v3), some (.int 0), some (.int 0)] [] hp (some (.int res)) hp := hl
    exact Fx.le hl (And.intro rfl (And.intro rfl (And.intro rfl (And.intro rfl (And.intro rfl (And.intro rfl trivial))))))
set_option maxHeartbeats 4000000 in
set_option maxRecDepth 20000 in
theorem t_Mo_runs (sh : Shp) (c : Nat) (hS : S_Mo sh c) (hp : HP) (v1 : Int32) (res : Int32) (hf : f_Mo_runs c hp v1 = some res) : Ex 3 q_Mo_runs sh [.ref c, .int v1] hp (some (.int res)) hp := by
  refine Ex.of [some (.ref c), some (.int v1), none, none, none, none] rfl (Nat.le_of_ble_eq_true rfl) (by decide +kernel) rfl ?_
  obtain ⟨t, hk⟩ : ∃ t, t = res := ⟨res, rfl⟩
  rw [← hk] at hf
  unfold f_Mo_runs at hf
  refine Fx.run [(.iconst 0, 1, 0, 0, .int 0), (.istore_n 2, 1, 2, 0, .null), (.iconst 0, 1, 0, 0, .int 0), (.istore_n 3, 1, 3, 0, .null)] 4 (by decide +kernel) ?_
  show Fx q_Mo_runs 3 sh 4 [some (.ref c), some (.int v1), some (.int 0), some (.int 0), none, none] [] hp (some (.int res)) hp
  have hl := t_Mo_runs_l4 sh c hS hp v1 res (0, 0) _ hf hk
  have hl : Fx q_Mo_runs 3 sh 4 [some (.ref c), some (.int v1), some (.int 0), some (.int 0), none, none] [] hp (some (.int res)) hp := hl
  exact Fx.le hl (And.intro rfl (And.intro rfl (And.intro rfl (And.intro rfl trivial))))
set_option maxHeartbeats 4000000 in
set_option maxRecDepth 20000 in
theorem t_Mo_look (sh : Shp) (c : Nat) (hS : S_Mo sh c) (hp : HP) (v1 : Int32) (res : Int32) (hf : f_Mo_look c hp v1 = some res) : Ex 9 q_Mo_look sh [.ref c, .int v1] hp (some (.int res)) hp := by
  refine Ex.of [some (.ref c), some (.int v1)] rfl (Nat.le_of_ble_eq_true rfl) (by decide +kernel) rfl ?_
  obtain ⟨t, hk⟩ : ∃ t, t = res := ⟨res, rfl⟩
  rw [← hk] at hf
  unfold f_Mo_look at hf
  refine Fx.run [(.iload_n 1, 1, 1, 0, .null)] 1 (by decide +kernel) ?_
  show Fx q_Mo_look 9 sh 1 [some (.ref c), some (.int v1)] [.int v1] hp (some (.int res)) hp
  by_cases b6 : v1 = 0
  · replace hf := ifp b6 hf
    refine Fx.swX 0 56 b6 (by decide +kernel) ?_
    refine Fx.run [(.aload_n 0, 1, 0, 0, .null), (.getfield 9, 3, 9, 0, .ref 1), (.iconst 0, 1, 0, 0, .int 0), (.iaload, 1, 4100, 0, .null)] 62 (by decide +kernel) ?_
    show isK sh c 9 ∧ (isA sh (c + 1) 10 4100 ∧ inb 0 4100) ∧ Fx q_Mo_look 9 sh 62 [some (.ref c), some (.int v1)] [.int (hp.1 (c + 1) (ix 0))] hp (some (.int res)) hp
    refine ⟨hS.1, ⟨hS.2.1, (by decide)⟩, ?_⟩
    obtain rfl := Option.some.inj hf
    have hk : (hp.1 (c + 1) (ix 0)) = res := hk
    subst hk
    exact Fx.iret (by decide +kernel) rfl
  replace hf := ifn b6 hf
  by_cases b7 : v1 = 1
  · replace hf := ifp b7 hf
    refine Fx.swX 1 63 b7 (by decide +kernel) ?_
    refine Fx.run [(.aload_n 0, 1, 0, 0, .null), (.getfield 9, 3, 9, 0, .ref 1), (.iconst 1, 1, 0, 0, .int 1), (.iaload, 1, 4100, 0, .null)] 69 (by decide +kernel) ?_
    show isK sh c 9 ∧ (isA sh (c + 1) 10 4100 ∧ inb 1 4100) ∧ Fx q_Mo_look 9 sh 69 [some (.ref c), some (.int v1)] [.int (hp.1 (c + 1) (ix 1))] hp (some (.int res)) hp
    refine ⟨hS.1, ⟨hS.2.1, (by decide)⟩, ?_⟩
    obtain rfl := Option.some.inj hf
    have hk : (hp.1 (c + 1) (ix 1)) = res := hk
    subst hk
    exact Fx.iret (by decide +kernel) rfl
  replace hf := ifn b7 hf
  by_cases b8 : v1 = 2
  · replace hf := ifp b8 hf
    refine Fx.swX 2 70 b8 (by decide +kernel) ?_
    replace hf := gd hf
    obtain ⟨g1, hf⟩ := hf
    refine Fx.run [(.aload_n 0, 1, 0, 0, .null), (.getfield 9, 3, 9, 0, .ref 1), (.iconst 2, 1, 0, 0, .int 2), (.iload_n 1, 1, 1, 0, .null), (.iadd, 1, 0, 0, .null), (.iconst 2, 1, 0, 0, .int 2), (.isub, 1, 0, 0, .null), (.iaload, 1, 4100, 0, .null)] 80 (by decide +kernel) ?_
    show isK sh c 9 ∧ (isA sh (c + 1) 10 4100 ∧ inb ((2 + v1) - 2) 4100) ∧ Fx q_Mo_look 9 sh 80 [some (.ref c), some (.int v1)] [.int (hp.1 (c + 1) (ix ((2 + v1) - 2)))] hp (some (.int res)) hp
    refine ⟨hS.1, ⟨hS.2.1, g1⟩, ?_⟩
    obtain rfl := Option.some.inj hf
    have hk : (hp.1 (c + 1) (ix ((2 + v1) - 2))) = res := hk
    subst hk
    exact Fx.iret (by decide +kernel) rfl
  replace hf := ifn b8 hf
  by_cases b9 : v1 = 3
  · replace hf := ifp b9 hf
    refine Fx.swX 3 70 b9 (by decide +kernel) ?_
    replace hf := gd hf
    obtain ⟨g2, hf⟩ := hf
    refine Fx.run [(.aload_n 0, 1, 0, 0, .null), (.getfield 9, 3, 9, 0, .ref 1), (.iconst 2, 1, 0, 0, .int 2), (.iload_n 1, 1, 1, 0, .null), (.iadd, 1, 0, 0, .null), (.iconst 2, 1, 0, 0, .int 2), (.isub, 1, 0, 0, .null), (.iaload, 1, 4100, 0, .null)] 80 (by decide +kernel) ?_
    show isK sh c 9 ∧ (isA sh (c + 1) 10 4100 ∧ inb ((2 + v1) - 2) 4100) ∧ Fx q_Mo_look 9 sh 80 [some (.ref c), some (.int v1)] [.int (hp.1 (c + 1) (ix ((2 + v1) - 2)))] hp (some (.int res)) hp
    refine ⟨hS.1, ⟨hS.2.1, g2⟩, ?_⟩
    obtain rfl := Option.some.inj hf
    have hk : (hp.1 (c + 1) (ix ((2 + v1) - 2))) = res := hk
    subst hk
    exact Fx.iret (by decide +kernel) rfl
  replace hf := ifn b9 hf
  by_cases b10 : v1 = 4
  · replace hf := ifp b10 hf
    refine Fx.swX 4 81 b10 (by decide +kernel) ?_
    refine Fx.run [(.aload_n 0, 1, 0, 0, .null), (.getfield 9, 3, 9, 0, .ref 1), (.sipush 404, 3, 0, 0, .int 404), (.iaload, 1, 4100, 0, .null)] 89 (by decide +kernel) ?_
    show isK sh c 9 ∧ (isA sh (c + 1) 10 4100 ∧ inb 404 4100) ∧ Fx q_Mo_look 9 sh 89 [some (.ref c), some (.int v1)] [.int (hp.1 (c + 1) (ix 404))] hp (some (.int res)) hp
    refine ⟨hS.1, ⟨hS.2.1, (by decide)⟩, ?_⟩
    obtain rfl := Option.some.inj hf
    have hk : (hp.1 (c + 1) (ix 404)) = res := hk
    subst hk
    exact Fx.iret (by decide +kernel) rfl
  replace hf := ifn b10 hf
  by_cases b11 : v1 = 5
  · replace hf := ifp b11 hf
    refine Fx.swX 5 90 b11 (by decide +kernel) ?_
    refine Fx.run [(.aload_n 0, 1, 0, 0, .null), (.getfield 9, 3, 9, 0, .ref 1), (.sipush 614, 3, 0, 0, .int 614), (.iaload, 1, 4100, 0, .null)] 98 (by decide +kernel) ?_
    show isK sh c 9 ∧ (isA sh (c + 1) 10 4100 ∧ inb 614 4100) ∧ Fx q_Mo_look 9 sh 98 [some (.ref c), some (.int v1)] [.int (hp.1 (c + 1) (ix 614))] hp (some (.int res)) hp
    refine ⟨hS.1, ⟨hS.2.1, (by decide)⟩, ?_⟩
    obtain rfl := Option.some.inj hf
    have hk : (hp.1 (c + 1) (ix 614)) = res := hk
    subst hk
    exact Fx.iret (by decide +kernel) rfl
  replace hf := ifn b11 hf
  by_cases b12 : v1 = 6
  · replace hf := ifp b12 hf
    refine Fx.swX 6 99 b12 (by decide +kernel) ?_
    refine Fx.run [(.aload_n 0, 1, 0, 0, .null), (.getfield 9, 3, 9, 0, .ref 1), (.sipush 863, 3, 0, 0, .int 863), (.iaload, 1, 4100, 0, .null)] 107 (by decide +kernel) ?_
    show isK sh c 9 ∧ (isA sh (c + 1) 10 4100 ∧ inb 863 4100) ∧ Fx q_Mo_look 9 sh 107 [some (.ref c), some (.int v1)] [.int (hp.1 (c + 1) (ix 863))] hp (some (.int res)) hp
    refine ⟨hS.1, ⟨hS.2.1, (by decide)⟩, ?_⟩
    obtain rfl := Option.some.inj hf
    have hk : (hp.1 (c + 1) (ix 863)) = res := hk
    subst hk
    exact Fx.iret (by decide +kernel) rfl
  replace hf := ifn b12 hf
  by_cases b13 : v1 = 7
  · replace hf := ifp b13 hf
    refine Fx.swX 7 108 b13 (by decide +kernel) ?_
    refine Fx.run [(.aload_n 0, 1, 0, 0, .null)] 109 (by decide +kernel) ?_
    show Fx q_Mo_look 9 sh 109 [some (.ref c), some (.int v1)] [.ref c] hp (some (.int res)) hp
    replace hf := bnd hf
    obtain ⟨r3, hr3, hf⟩ := hf
    refine Fx.callV (rr := (some (.int r3))) (hp1 := hp) [] [] lk_9_292 (by decide +kernel) (t_Mo_mostPartners sh c (hS) hp r3 hr3) ⟨Nat.le_of_ble_eq_true rfl, Nat.le_of_ble_eq_true rfl⟩ (hS).1 (by decide) rfl (Nat.le_of_ble_eq_true rfl) ?_
    show Fx q_Mo_look 9 sh 112 [some (.ref c), some (.int v1)] [.int r3] hp (some (.int res)) hp
    obtain rfl := Option.some.inj hf
    have hk : r3 = res := hk
    subst hk
    exact Fx.iret (by decide +kernel) rfl
  replace hf := ifn b13 hf
  by_cases b14 : v1 = 8
  · replace hf := ifp b14 hf
    refine Fx.swX 8 113 b14 (by decide +kernel) ?_
    refine Fx.run [(.aload_n 0, 1, 0, 0, .null), (.iload_n 1, 1, 1, 0, .null), (.bipush 8, 2, 0, 0, .int 8), (.isub, 1, 0, 0, .null)] 118 (by decide +kernel) ?_
    show Fx q_Mo_look 9 sh 118 [some (.ref c), some (.int v1)] [.int (v1 - 8), .ref c] hp (some (.int res)) hp
    replace hf := bnd hf
    obtain ⟨r4, hr4, hf⟩ := hf
    refine Fx.callV (rr := (some (.int r4))) (hp1 := hp) [.int (v1 - 8)] [] lk_9_295 (by decide +kernel) (t_Mo_runs sh c (hS) hp (v1 - 8) r4 hr4) ⟨Nat.le_of_ble_eq_true rfl, Nat.le_of_ble_eq_true rfl⟩ (hS).1 (by decide) rfl (Nat.le_of_ble_eq_true rfl) ?_
    show Fx q_Mo_look 9 sh 121 [some (.ref c), some (.int v1)] [.int r4] hp (some (.int res)) hp
    obtain rfl := Option.some.inj hf
    have hk : r4 = res := hk
    subst hk
    exact Fx.iret (by decide +kernel) rfl
  replace hf := ifn b14 hf
  by_cases b15 : v1 = 9
  · replace hf := ifp b15 hf
    refine Fx.swX 9 113 b15 (by decide +kernel) ?_
    refine Fx.run [(.aload_n 0, 1, 0, 0, .null), (.iload_n 1, 1, 1, 0, .null), (.bipush 8, 2, 0, 0, .int 8), (.isub, 1, 0, 0, .null)] 118 (by decide +kernel) ?_
    show Fx q_Mo_look 9 sh 118 [some (.ref c), some (.int v1)] [.int (v1 - 8), .ref c] hp (some (.int res)) hp
    replace hf := bnd hf
    obtain ⟨r5, hr5, hf⟩ := hf
    refine Fx.callV (rr := (some (.int r5))) (hp1 := hp) [.int (v1 - 8)] [] lk_9_295 (by decide +kernel) (t_Mo_runs sh c (hS) hp (v1 - 8) r5 hr5) ⟨Nat.le_of_ble_eq_true rfl, Nat.le_of_ble_eq_true rfl⟩ (hS).1 (by decide) rfl (Nat.le_of_ble_eq_true rfl) ?_
    show Fx q_Mo_look 9 sh 121 [some (.ref c), some (.int v1)] [.int r5] hp (some (.int res)) hp
    obtain rfl := Option.some.inj hf
    have hk : r5 = res := hk
    subst hk
    exact Fx.iret (by decide +kernel) rfl
  replace hf := ifn b15 hf
  refine Fx.swD [0, 1, 2, 3, 4, 5, 6, 7, 8, 9] 122 (by decide +kernel) (List.forall_mem_cons.mpr ⟨b6, (List.forall_mem_cons.mpr ⟨b7, (List.forall_mem_cons.mpr ⟨b8, (List.forall_mem_cons.mpr ⟨b9, (List.forall_mem_cons.mpr ⟨b10, (List.forall_mem_cons.mpr ⟨b11, (List.forall_mem_cons.mpr ⟨b12, (List.forall_mem_cons.mpr ⟨b13, (List.forall_mem_cons.mpr ⟨b14, (List.forall_mem_cons.mpr ⟨b15, (fun _ h => absurd h List.not_mem_nil)⟩)⟩)⟩)⟩)⟩)⟩)⟩)⟩)⟩)⟩) ?_
  refine Fx.run [(.iconst (-1), 1, 0, 0, .int (-1))] 123 (by decide +kernel) ?_
  show Fx q_Mo_look 9 sh 123 [some (.ref c), some (.int v1)] [.int (-1)] hp (some (.int res)) hp
  obtain rfl := Option.some.inj hf
  have hk : (-1) = res := hk
  subst hk
  exact Fx.iret (by decide +kernel) rfl
