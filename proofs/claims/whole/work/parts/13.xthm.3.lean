abbrev P_TJ_matched_29 (sh : Shp) (c : Nat) (hp : HP) (v1 : Int32) (v2 : Int32) (v5 : Int32) (res : Int64) : (Int64 × Int32) → Prop := fun s => Fx q_TJ_matched 6 sh 29 [some (.ref c), some (.int v1), some (.int v2), some (.long s.1), none, some (.int v5), some (.int s.2)] [] hp (some (.long res)) hp
set_option maxHeartbeats 4000000 in
set_option maxRecDepth 20000 in
theorem t_TJ_matched_l29 (sh : Shp) (c : Nat) (hS : S_TJ sh c) (hp : HP) (v1 : Int32) (v2 : Int32) (v5 : Int32) (res : Int64) : ∀ (s : (Int64 × Int32)) (t : Int64), f_TJ_matched_l29 c hp v1 v2 v5 s = some t → (fun v => v = res) t → P_TJ_matched_29 sh c hp v1 v2 v5 res s := by
  refine loop_ind (P_TJ_matched_29 sh c hp v1 v2 v5 res) (fun v => v = res) ?_
  intro s t hf hk
  obtain ⟨v3, v6⟩ := s
  replace hf : f_TJ_matched_b29 c hp v1 v2 v5 v3 v6 = some t := hf
  show Fx q_TJ_matched 6 sh 29 [some (.ref c), some (.int v1), some (.int v2), some (.long v3), none, some (.int v5), some (.int v6)] [] hp (some (.long res)) hp
  unfold f_TJ_matched_b29 at hf
  refine Fx.run [(.iload 6, 2, 6, 0, .null), (.iload 5, 2, 5, 0, .null)] 33 (by decide +kernel) ?_
  show Fx q_TJ_matched 6 sh 33 [some (.ref c), some (.int v1), some (.int v2), some (.long v3), none, some (.int v5), some (.int v6)] [.int v5, .int v6] hp (some (.long res)) hp
  refine Fx.icmp_ge (30) 63 36 (by decide +kernel) (fun b4 => ?_) (fun b4 => ?_)
  · replace hf := ifp b4 hf
    replace hf := mpd hf
    obtain ⟨t, hf, rfl⟩ := hf
    refine Fx.run [(.lload_n 3, 1, 3, 0, .null)] 64 (by decide +kernel) ?_
    show Fx q_TJ_matched 6 sh 64 [some (.ref c), some (.int v1), some (.int v2), some (.long v3), none, some (.int v5), some (.int v6)] [.long v3] hp (some (.long res)) hp
    obtain rfl := Option.some.inj hf
    have hk : v3 = res := hk
    subst hk
    exact Fx.lret (by decide +kernel) rfl
  · replace hf := ifn b4 hf
    refine Fx.run [(.aload_n 0, 1, 0, 0, .null), (.getfield 12, 3, 8, 0, .ref 1), (.iload_n 1, 1, 1, 0, .null), (.iload 6, 2, 6, 0, .null)] 43 (by decide +kernel) ?_
    show isK sh c 8 ∧ Fx q_TJ_matched 6 sh 43 [some (.ref c), some (.int v1), some (.int v2), some (.long v3), none, some (.int v5), some (.int v6)] [.int v6, .int v1, .ref (c + 1)] hp (some (.long res)) hp
    refine ⟨hS.1, ?_⟩
    replace hf := bnd hf
    obtain ⟨r5, hr5, hf⟩ := hf
    refine Fx.callV (rr := (some (.int r5))) (hp1 := hp) [.int v1, .int v6] [] lk_8_240 (by decide +kernel) (t_St_hasPartner sh (c + 1) (hS.2.1) hp v1 v6 r5 hr5) ⟨Nat.le_of_ble_eq_true rfl, Nat.le_of_ble_eq_true rfl⟩ (hS.2.1).1 (by decide) rfl (Nat.le_of_ble_eq_true rfl) ?_
    show Fx q_TJ_matched 6 sh 46 [some (.ref c), some (.int v1), some (.int v2), some (.long v3), none, some (.int v5), some (.int v6)] [.int r5] hp (some (.long res)) hp
    refine Fx.run [(.iload_n 2, 1, 2, 0, .null)] 47 (by decide +kernel) ?_
    show Fx q_TJ_matched 6 sh 47 [some (.ref c), some (.int v1), some (.int v2), some (.long v3), none, some (.int v5), some (.int v6)] [.int v2, .int r5] hp (some (.long res)) hp
    refine Fx.icmp_ne (10) 57 50 (by decide +kernel) (fun b6 => ?_) (fun b6 => ?_)
    · replace hf := ifn b6 hf
      refine Fx.run [(.iinc 6 1, 3, 6, 0, .int 1)] 60 (by decide +kernel) ?_
      show Fx q_TJ_matched 6 sh 60 [some (.ref c), some (.int v1), some (.int v2), some (.long v3), none, some (.int v5), some (.int (v6 + 1))] [] hp (some (.long res)) hp
      refine Fx.goto (-31) 29 (by decide +kernel) ?_
      obtain rfl := Option.some.inj hf
      have hk : Fx q_TJ_matched 6 sh 29 [some (.ref c), some (.int v1), some (.int v2), some (.long v3), none, some (.int v5), some (.int (v6 + 1))] [] hp (some (.long res)) hp := hk
      exact Fx.le hk (And.intro rfl (And.intro rfl (And.intro rfl (And.intro rfl (And.intro rfl (And.intro rfl trivial))))))
    · replace hf := ifp b6 hf
      refine Fx.run [(.lload_n 3, 1, 3, 0, .null), (.lconst 1, 1, 0, 0, .long 1), (.iload 6, 2, 6, 0, .null), (.lshl, 1, 0, 0, .null), (.lor, 1, 0, 0, .null), (.lstore_n 3, 1, 3, 0, .null), (.iinc 6 1, 3, 6, 0, .int 1)] 60 (by decide +kernel) ?_
      show Fx q_TJ_matched 6 sh 60 [some (.ref c), some (.int v1), some (.int v2), some (.long (v3 ||| (1 <<< (Int32.toInt64 v6 &&& 63)))), none, some (.int v5), some (.int (v6 + 1))] [] hp (some (.long res)) hp
      refine Fx.goto (-31) 29 (by decide +kernel) ?_
      obtain rfl := Option.some.inj hf
      have hk : Fx q_TJ_matched 6 sh 29 [some (.ref c), some (.int v1), some (.int v2), some (.long (v3 ||| (1 <<< (Int32.toInt64 v6 &&& 63)))), none, some (.int v5), some (.int (v6 + 1))] [] hp (some (.long res)) hp := hk
      exact Fx.le hk (And.intro rfl (And.intro rfl (And.intro rfl (And.intro rfl (And.intro rfl (And.intro rfl trivial))))))
set_option maxHeartbeats 4000000 in
set_option maxRecDepth 20000 in
theorem t_TJ_matched (sh : Shp) (c : Nat) (hS : S_TJ sh c) (hp : HP) (v1 : Int32) (v2 : Int32) (res : Int64) (hf : f_TJ_matched c hp v1 v2 = some res) : Ex 6 q_TJ_matched sh [.ref c, .int v1, .int v2] hp (some (.long res)) hp := by
  refine Ex.of [some (.ref c), some (.int v1), some (.int v2), none, none, none, none] rfl (Nat.le_of_ble_eq_true rfl) (by decide +kernel) rfl ?_
  obtain ⟨t, hk⟩ : ∃ t, t = res := ⟨res, rfl⟩
  rw [← hk] at hf
  unfold f_TJ_matched at hf
  refine Fx.run [(.iload_n 1, 1, 1, 0, .null)] 1 (by decide +kernel) ?_
  show Fx q_TJ_matched 6 sh 1 [some (.ref c), some (.int v1), some (.int v2), none, none, none, none] [.int v1] hp (some (.long res)) hp
  replace hf := bnd hf
  obtain ⟨r1, hr1, hf⟩ := hf
  refine Fx.callS (rr := (some (.int r1))) (hp1 := hp) [.int v1] [] lk_8_91 (by decide +kernel) (t_TJ_isSide sh hp v1 r1 hr1) ⟨Nat.le_of_ble_eq_true rfl, Nat.le_of_ble_eq_true rfl⟩ rfl (Nat.le_of_ble_eq_true rfl) ?_
  show Fx q_TJ_matched 6 sh 4 [some (.ref c), some (.int v1), some (.int v2), none, none, none, none] [.int r1] hp (some (.long res)) hp
  refine Fx.if_ne (7) 11 7 (by decide +kernel) (fun b2 => ?_) (fun b2 => ?_)
  · replace hf := ifn b2 hf
    refine Fx.run [(.lconst 0, 1, 0, 0, .long 0), (.lstore_n 3, 1, 3, 0, .null), (.aload_n 0, 1, 0, 0, .null), (.getfield 12, 3, 8, 0, .ref 1), (.iload_n 1, 1, 1, 0, .null)] 18 (by decide +kernel) ?_
    show isK sh c 8 ∧ Fx q_TJ_matched 6 sh 18 [some (.ref c), some (.int v1), some (.int v2), some (.long 0), none, none, none] [.int v1, .ref (c + 1)] hp (some (.long res)) hp
    refine ⟨hS.1, ?_⟩
    replace hf := bnd hf
    obtain ⟨r3, hr3, hf⟩ := hf
    refine Fx.callV (rr := (some (.ref r3))) (hp1 := hp) [.int v1] [] lk_8_95 (by decide +kernel) (t_St_rowsOf sh (c + 1) (hS.2.1) hp v1 r3 hr3) ⟨Nat.le_of_ble_eq_true rfl, Nat.le_of_ble_eq_true rfl⟩ (hS.2.1).1 (by decide) rfl (Nat.le_of_ble_eq_true rfl) ?_
    show Fx q_TJ_matched 6 sh 21 [some (.ref c), some (.int v1), some (.int v2), some (.long 0), none, none, none] [.ref r3] hp (some (.long res)) hp
    refine Fx.run [(.getfield 88, 3, 4, 5, .null), (.istore 5, 2, 5, 0, .null), (.iconst 0, 1, 0, 0, .int 0), (.istore 6, 2, 6, 0, .null)] 29 (by decide +kernel) ?_
    show isK sh r3 4 ∧ Fx q_TJ_matched 6 sh 29 [some (.ref c), some (.int v1), some (.int v2), some (.long 0), none, some (.int (hp.1 r3 5)), some (.int 0)] [] hp (some (.long res)) hp
    refine ⟨(rowsOf_S hS.2.1 hr3).1, ?_⟩
    have hl := t_TJ_matched_l29 sh c hS hp v1 v2 (hp.1 r3 5) res (0, 0) _ hf hk
    have hl : Fx q_TJ_matched 6 sh 29 [some (.ref c), some (.int v1), some (.int v2), some (.long 0), none, some (.int (hp.1 r3 5)), some (.int 0)] [] hp (some (.long res)) hp := hl
    exact Fx.le hl (And.intro rfl (And.intro rfl (And.intro rfl (And.intro rfl (And.intro rfl (And.intro rfl trivial))))))
  · replace hf := ifp b2 hf
    refine Fx.run [(.ldc2_w 238, 3, 0, 0, .long (-1))] 10 (by decide +kernel) ?_
    show Fx q_TJ_matched 6 sh 10 [some (.ref c), some (.int v1), some (.int v2), none, none, none, none] [.long (-1)] hp (some (.long res)) hp
    obtain rfl := Option.some.inj hf
    have hk : (-1) = res := hk
    subst hk
    exact Fx.lret (by decide +kernel) rfl
abbrev P_TJ_kinds_16 (sh : Shp) (c : Nat) (hp : HP) (v1 : Int32) (res : Int32) : (Int32 × Int32) → Prop := fun s => Fx q_TJ_kinds 4 sh 16 [some (.ref c), some (.int v1), some (.int s.1), some (.int s.2), none] [] hp (some (.int res)) hp
abbrev P_TJ_kinds_33 (sh : Shp) (c : Nat) (hp : HP) (v1 : Int32) (v3 : Int32) (res : Int32) : (Int32 × Int32) → Prop := fun s => Fx q_TJ_kinds 4 sh 33 [some (.ref c), some (.int v1), some (.int s.1), some (.int v3), some (.int s.2)] [] hp (some (.int res)) hp
set_option maxHeartbeats 4000000 in
set_option maxRecDepth 20000 in
theorem t_TJ_kinds_l33 (sh : Shp) (c : Nat) (hS : S_TJ sh c) (hp : HP) (v1 : Int32) (v3 : Int32) (res : Int32) : ∀ (s : (Int32 × Int32)) (t : ((Int32 × Int32) ⊕ Int32)), f_TJ_kinds_l33 c hp v1 v3 s = some t → (Kel (P_TJ_kinds_16 sh c hp v1 res) (fun v => v = res)) t → P_TJ_kinds_33 sh c hp v1 v3 res s := by
  refine loop_ind (P_TJ_kinds_33 sh c hp v1 v3 res) (Kel (P_TJ_kinds_16 sh c hp v1 res) (fun v => v = res)) ?_
  intro s t hf hk
  obtain ⟨v2, v4⟩ := s
  replace hf : f_TJ_kinds_b33 c hp v1 v3 v2 v4 = some t := hf
  show Fx q_TJ_kinds 4 sh 33 [some (.ref c), some (.int v1), some (.int v2), some (.int v3), some (.int v4)] [] hp (some (.int res)) hp
  unfold f_TJ_kinds_b33 at hf
  refine Fx.run [(.iload 4, 2, 4, 0, .null), (.aload_n 0, 1, 0, 0, .null), (.getfield 12, 3, 8, 0, .ref 1), (.getfield 246, 3, 5, 1, .ref 7), (.getfield 88, 3, 4, 5, .null)] 45 (by decide +kernel) ?_
  show isK sh c 8 ∧ isK sh (c + 1) 5 ∧ isK sh ((c + 1) + 7) 4 ∧ Fx q_TJ_kinds 4 sh 45 [some (.ref c), some (.int v1), some (.int v2), some (.int v3), some (.int v4)] [.int (hp.1 ((c + 1) + 7) 5), .int v4] hp (some (.int res)) hp
  refine ⟨hS.1, hS.2.1.1, hS.2.1.2.2.1.1, ?_⟩
  refine Fx.icmp_ge (42) 87 48 (by decide +kernel) (fun b4 => ?_) (fun b4 => ?_)
  · replace hf := ifp b4 hf
    replace hf := mpd hf
    obtain ⟨t, hf, rfl⟩ := hf
    refine Fx.run [(.iinc 3 1, 3, 3, 0, .int 1)] 90 (by decide +kernel) ?_
    show Fx q_TJ_kinds 4 sh 90 [some (.ref c), some (.int v1), some (.int v2), some (.int (v3 + 1)), some (.int v4)] [] hp (some (.int res)) hp
    refine Fx.goto (-74) 16 (by decide +kernel) ?_
    obtain rfl := Option.some.inj hf
    have hk : Fx q_TJ_kinds 4 sh 16 [some (.ref c), some (.int v1), some (.int v2), some (.int (v3 + 1)), none] [] hp (some (.int res)) hp := hk
    exact Fx.le hk (And.intro rfl (And.intro rfl (And.intro rfl (And.intro rfl trivial))))
  · replace hf := ifn b4 hf
    refine Fx.run [(.aload_n 0, 1, 0, 0, .null), (.getfield 12, 3, 8, 0, .ref 1), (.iconst 0, 1, 0, 0, .int 0), (.iload_n 3, 1, 3, 0, .null), (.iload 4, 2, 4, 0, .null)] 56 (by decide +kernel) ?_
    show isK sh c 8 ∧ Fx q_TJ_kinds 4 sh 56 [some (.ref c), some (.int v1), some (.int v2), some (.int v3), some (.int v4)] [.int v4, .int v3, .int 0, .ref (c + 1)] hp (some (.int res)) hp
    refine ⟨hS.1, ?_⟩
    replace hf := bnd hf
    obtain ⟨r5, hr5, hf⟩ := hf
    refine Fx.callV (rr := (some (.int r5))) (hp1 := hp) [.int 0, .int v3, .int v4] [] lk_8_234 (by decide +kernel) (t_St_keysFit sh (c + 1) (hS.2.1) hp 0 v3 v4 r5 hr5) ⟨Nat.le_of_ble_eq_true rfl, Nat.le_of_ble_eq_true rfl⟩ (hS.2.1).1 (by decide) rfl (Nat.le_of_ble_eq_true rfl) ?_
    show Fx q_TJ_kinds 4 sh 59 [some (.ref c), some (.int v1), some (.int v2), some (.int v3), some (.int v4)] [.int r5] hp (some (.int res)) hp
    refine Fx.if_eq (22) 81 62 (by decide +kernel) (fun b6 => ?_) (fun b6 => ?_)
    · replace hf := ifp b6 hf
      refine Fx.run [(.iinc 4 1, 3, 4, 0, .int 1)] 84 (by decide +kernel) ?_
      show Fx q_TJ_kinds 4 sh 84 [some (.ref c), some (.int v1), some (.int v2), some (.int v3), some (.int (v4 + 1))] [] hp (some (.int res)) hp
      refine Fx.goto (-51) 33 (by decide +kernel) ?_
      obtain rfl := Option.some.inj hf
      have hk : Fx q_TJ_kinds 4 sh 33 [some (.ref c), some (.int v1), some (.int v2), some (.int v3), some (.int (v4 + 1))] [] hp (some (.int res)) hp := hk
      exact Fx.le hk (And.intro rfl (And.intro rfl (And.intro rfl (And.intro rfl (And.intro rfl trivial)))))
    · replace hf := ifn b6 hf
      refine Fx.run [(.aload_n 0, 1, 0, 0, .null), (.getfield 12, 3, 8, 0, .ref 1), (.iconst 0, 1, 0, 0, .int 0), (.iload_n 3, 1, 3, 0, .null), (.iconst 1, 1, 0, 0, .int 1), (.iload 4, 2, 4, 0, .null)] 71 (by decide +kernel) ?_
      show isK sh c 8 ∧ Fx q_TJ_kinds 4 sh 71 [some (.ref c), some (.int v1), some (.int v2), some (.int v3), some (.int v4)] [.int v4, .int 1, .int v3, .int 0, .ref (c + 1)] hp (some (.int res)) hp
      refine ⟨hS.1, ?_⟩
      replace hf := bnd hf
      obtain ⟨r7, hr7, hf⟩ := hf
      refine Fx.callV (rr := (some (.int r7))) (hp1 := hp) [.int 0, .int v3, .int 1, .int v4] [] lk_8_153 (by decide +kernel) (t_St_kindOf sh (c + 1) (hS.2.1) hp 0 v3 1 v4 r7 hr7) ⟨Nat.le_of_ble_eq_true rfl, Nat.le_of_ble_eq_true rfl⟩ (hS.2.1).1 (by decide) rfl (Nat.le_of_ble_eq_true rfl) ?_
      show Fx q_TJ_kinds 4 sh 74 [some (.ref c), some (.int v1), some (.int v2), some (.int v3), some (.int v4)] [.int r7] hp (some (.int res)) hp
      refine Fx.run [(.iload_n 1, 1, 1, 0, .null)] 75 (by decide +kernel) ?_
      show Fx q_TJ_kinds 4 sh 75 [some (.ref c), some (.int v1), some (.int v2), some (.int v3), some (.int v4)] [.int v1, .int r7] hp (some (.int res)) hp
      refine Fx.icmp_ne (6) 81 78 (by decide +kernel) (fun b8 => ?_) (fun b8 => ?_)
      · replace hf := ifn b8 hf
        refine Fx.run [(.iinc 4 1, 3, 4, 0, .int 1)] 84 (by decide +kernel) ?_
        show Fx q_TJ_kinds 4 sh 84 [some (.ref c), some (.int v1), some (.int v2), some (.int v3), some (.int (v4 + 1))] [] hp (some (.int res)) hp
        refine Fx.goto (-51) 33 (by decide +kernel) ?_
        obtain rfl := Option.some.inj hf
        have hk : Fx q_TJ_kinds 4 sh 33 [some (.ref c), some (.int v1), some (.int v2), some (.int v3), some (.int (v4 + 1))] [] hp (some (.int res)) hp := hk
        exact Fx.le hk (And.intro rfl (And.intro rfl (And.intro rfl (And.intro rfl (And.intro rfl trivial)))))
      · replace hf := ifp b8 hf
        refine Fx.run [(.iinc 2 1, 3, 2, 0, .int 1), (.iinc 4 1, 3, 4, 0, .int 1)] 84 (by decide +kernel) ?_
        show Fx q_TJ_kinds 4 sh 84 [some (.ref c), some (.int v1), some (.int (v2 + 1)), some (.int v3), some (.int (v4 + 1))] [] hp (some (.int res)) hp
        refine Fx.goto (-51) 33 (by decide +kernel) ?_
        obtain rfl := Option.some.inj hf
        have hk : Fx q_TJ_kinds 4 sh 33 [some (.ref c), some (.int v1), some (.int (v2 + 1)), some (.int v3), some (.int (v4 + 1))] [] hp (some (.int res)) hp := hk
        exact Fx.le hk (And.intro rfl (And.intro rfl (And.intro rfl (And.intro rfl (And.intro rfl trivial)))))
set_option maxHeartbeats 4000000 in
set_option maxRecDepth 20000 in
theorem t_TJ_kinds_l16 (sh : Shp) (c : Nat) (hS : S_TJ sh c) (hp : HP) (v1 : Int32) (res : Int32) : ∀ (s : (Int32 × Int32)) (t : Int32), f_TJ_kinds_l16 c hp v1 s = some t → (fun v => v = res) t → P_TJ_kinds_16 sh c hp v1 res s := by
  refine loop_ind (P_TJ_kinds_16 sh c hp v1 res) (fun v => v = res) ?_
  intro s t hf hk
  obtain ⟨v2, v3⟩ := s
  replace hf : f_TJ_kinds_b16 c hp v1 v2 v3 = some t := hf
  show Fx q_TJ_kinds 4 sh 16 [some (.ref c), some (.int v1), some (.int v2), some (.int v3), none] [] hp (some (.int res)) hp
  unfold f_TJ_kinds_b16 at hf
  refine Fx.run [(.iload_n 3, 1, 3, 0, .null), (.aload_n 0, 1, 0, 0, .null), (.getfield 12, 3, 8, 0, .ref 1), (.getfield 243, 3, 5, 0, .ref 1), (.getfield 88, 3, 4, 5, .null)] 27 (by decide +kernel) ?_
  show isK sh c 8 ∧ isK sh (c + 1) 5 ∧ isK sh ((c + 1) + 1) 4 ∧ Fx q_TJ_kinds 4 sh 27 [some (.ref c), some (.int v1), some (.int v2), some (.int v3), none] [.int (hp.1 ((c + 1) + 1) 5), .int v3] hp (some (.int res)) hp
  refine ⟨hS.1, hS.2.1.1, hS.2.1.2.1.1, ?_⟩
  refine Fx.icmp_ge (66) 93 30 (by decide +kernel) (fun b3 => ?_) (fun b3 => ?_)
  · replace hf := ifp b3 hf
    replace hf := mpd hf
    obtain ⟨t, hf, rfl⟩ := hf
    refine Fx.run [(.iload_n 2, 1, 2, 0, .null)] 94 (by decide +kernel) ?_
    show Fx q_TJ_kinds 4 sh 94 [some (.ref c), some (.int v1), some (.int v2), some (.int v3), none] [.int v2] hp (some (.int res)) hp
    obtain rfl := Option.some.inj hf
    have hk : v2 = res := hk
    subst hk
    exact Fx.iret (by decide +kernel) rfl
  · replace hf := ifn b3 hf
    refine Fx.run [(.iconst 0, 1, 0, 0, .int 0), (.istore 4, 2, 4, 0, .null)] 33 (by decide +kernel) ?_
    show Fx q_TJ_kinds 4 sh 33 [some (.ref c), some (.int v1), some (.int v2), some (.int v3), some (.int 0)] [] hp (some (.int res)) hp
    have hl := t_TJ_kinds_l33 sh c hS hp v1 v3 res (v2, 0) _ hf hk
    have hl : Fx q_TJ_kinds 4 sh 33 [some (.ref c), some (.int v1), some (.int v2), some (.int v3), some (.int 0)] [] hp (some (.int res)) hp := hl
    exact Fx.le hl (And.intro rfl (And.intro rfl (And.intro rfl (And.intro rfl (And.intro rfl trivial)))))
set_option maxHeartbeats 4000000 in
set_option maxRecDepth 20000 in
theorem t_TJ_kinds (sh : Shp) (c : Nat) (hS : S_TJ sh c) (hp : HP) (v1 : Int32) (res : Int32) (hf : f_TJ_kinds c hp v1 = some res) : Ex 4 q_TJ_kinds sh [.ref c, .int v1] hp (some (.int res)) hp := by
  refine Ex.of [some (.ref c), some (.int v1), none, none, none] rfl (Nat.le_of_ble_eq_true rfl) (by decide +kernel) rfl ?_
  obtain ⟨t, hk⟩ : ∃ t, t = res := ⟨res, rfl⟩
  rw [← hk] at hf
  unfold f_TJ_kinds at hf
  refine Fx.run [(.iload_n 1, 1, 1, 0, .null)] 1 (by decide +kernel) ?_
  show Fx q_TJ_kinds 4 sh 1 [some (.ref c), some (.int v1), none, none, none] [.int v1] hp (some (.int res)) hp
  refine Fx.if_lt (9) 10 4 (by decide +kernel) (fun b1 => ?_) (fun b1 => ?_)
  · replace hf := ifp b1 hf
    refine Fx.run [(.iconst (-1), 1, 0, 0, .int (-1))] 11 (by decide +kernel) ?_
    show Fx q_TJ_kinds 4 sh 11 [some (.ref c), some (.int v1), none, none, none] [.int (-1)] hp (some (.int res)) hp
    obtain rfl := Option.some.inj hf
    have hk : (-1) = res := hk
    subst hk
    exact Fx.iret (by decide +kernel) rfl
  · replace hf := ifn b1 hf
    refine Fx.run [(.iload_n 1, 1, 1, 0, .null), (.bipush 13, 2, 0, 0, .int 13)] 7 (by decide +kernel) ?_
    show Fx q_TJ_kinds 4 sh 7 [some (.ref c), some (.int v1), none, none, none] [.int 13, .int v1] hp (some (.int res)) hp
    refine Fx.icmp_lt (5) 12 10 (by decide +kernel) (fun b2 => ?_) (fun b2 => ?_)
    · replace hf := ifp b2 hf
      refine Fx.run [(.iconst 0, 1, 0, 0, .int 0), (.istore_n 2, 1, 2, 0, .null), (.iconst 0, 1, 0, 0, .int 0), (.istore_n 3, 1, 3, 0, .null)] 16 (by decide +kernel) ?_
      show Fx q_TJ_kinds 4 sh 16 [some (.ref c), some (.int v1), some (.int 0), some (.int 0), none] [] hp (some (.int res)) hp
      have hl := t_TJ_kinds_l16 sh c hS hp v1 res (0, 0) _ hf hk
      have hl : Fx q_TJ_kinds 4 sh 16 [some (.ref c), some (.int v1), some (.int 0), some (.int 0), none] [] hp (some (.int res)) hp := hl
      exact Fx.le hl (And.intro rfl (And.intro rfl (And.intro rfl (And.intro rfl trivial))))
    · replace hf := ifn b2 hf
      refine Fx.run [(.iconst (-1), 1, 0, 0, .int (-1))] 11 (by decide +kernel) ?_
      show Fx q_TJ_kinds 4 sh 11 [some (.ref c), some (.int v1), none, none, none] [.int (-1)] hp (some (.int res)) hp
      obtain rfl := Option.some.inj hf
      have hk : (-1) = res := hk
      subst hk
      exact Fx.iret (by decide +kernel) rfl
abbrev P_TJ_sharedBy_5 (sh : Shp) (c : Nat) (hp : HP) (v1 : Int32) (res : Int64) : (Int64 × Int32) → Prop := fun s => Fx q_TJ_sharedBy 5 sh 5 [some (.ref c), some (.int v1), some (.long s.1), none, some (.int s.2)] [] hp (some (.long res)) hp
set_option maxHeartbeats 4000000 in
set_option maxRecDepth 20000 in
theorem t_TJ_sharedBy_l5 (sh : Shp) (c : Nat) (hS : S_TJ sh c) (hp : HP) (v1 : Int32) (res : Int64) : ∀ (s : (Int64 × Int32)) (t : Int64), f_TJ_sharedBy_l5 c hp v1 s = some t → (fun v => v = res) t → P_TJ_sharedBy_5 sh c hp v1 res s := by
  refine loop_ind (P_TJ_sharedBy_5 sh c hp v1 res) (fun v => v = res) ?_
  intro s t hf hk
  obtain ⟨v2, v4⟩ := s
  replace hf : f_TJ_sharedBy_b5 c hp v1 v2 v4 = some t := hf
  show Fx q_TJ_sharedBy 5 sh 5 [some (.ref c), some (.int v1), some (.long v2), none, some (.int v4)] [] hp (some (.long res)) hp
  unfold f_TJ_sharedBy_b5 at hf
  refine Fx.run [(.iload 4, 2, 4, 0, .null), (.aload_n 0, 1, 0, 0, .null), (.getfield 12, 3, 8, 0, .ref 1), (.getfield 246, 3, 5, 1, .ref 7), (.getfield 88, 3, 4, 5, .null)] 17 (by decide +kernel) ?_
  show isK sh c 8 ∧ isK sh (c + 1) 5 ∧ isK sh ((c + 1) + 7) 4 ∧ Fx q_TJ_sharedBy 5 sh 17 [some (.ref c), some (.int v1), some (.long v2), none, some (.int v4)] [.int (hp.1 ((c + 1) + 7) 5), .int v4] hp (some (.long res)) hp
  refine ⟨hS.1, hS.2.1.1, hS.2.1.2.2.1.1, ?_⟩
  refine Fx.icmp_ge (37) 54 20 (by decide +kernel) (fun b1 => ?_) (fun b1 => ?_)
  · replace hf := ifp b1 hf
    replace hf := mpd hf
    obtain ⟨t, hf, rfl⟩ := hf
    refine Fx.run [(.lload_n 2, 1, 2, 0, .null)] 55 (by decide +kernel) ?_
    show Fx q_TJ_sharedBy 5 sh 55 [some (.ref c), some (.int v1), some (.long v2), none, some (.int v4)] [.long v2] hp (some (.long res)) hp
    obtain rfl := Option.some.inj hf
    have hk : v2 = res := hk
    subst hk
    exact Fx.lret (by decide +kernel) rfl
  · replace hf := ifn b1 hf
    refine Fx.run [(.aload_n 0, 1, 0, 0, .null), (.getfield 12, 3, 8, 0, .ref 1), (.iconst 0, 1, 0, 0, .int 0), (.iload_n 1, 1, 1, 0, .null), (.iload 4, 2, 4, 0, .null)] 28 (by decide +kernel) ?_
    show isK sh c 8 ∧ Fx q_TJ_sharedBy 5 sh 28 [some (.ref c), some (.int v1), some (.long v2), none, some (.int v4)] [.int v4, .int v1, .int 0, .ref (c + 1)] hp (some (.long res)) hp
    refine ⟨hS.1, ?_⟩
    replace hf := bnd hf
    obtain ⟨r2, hr2, hf⟩ := hf
    refine Fx.callV (rr := (some (.int r2))) (hp1 := hp) [.int 0, .int v1, .int v4] [] lk_8_256 (by decide +kernel) (t_St_arePartners sh (c + 1) (hS.2.1) hp 0 v1 v4 r2 hr2) ⟨Nat.le_of_ble_eq_true rfl, Nat.le_of_ble_eq_true rfl⟩ (hS.2.1).1 (by decide) rfl (Nat.le_of_ble_eq_true rfl) ?_
    show Fx q_TJ_sharedBy 5 sh 31 [some (.ref c), some (.int v1), some (.long v2), none, some (.int v4)] [.int r2] hp (some (.long res)) hp
    refine Fx.if_eq (17) 48 34 (by decide +kernel) (fun b3 => ?_) (fun b3 => ?_)
    · replace hf := ifp b3 hf
      refine Fx.run [(.iinc 4 1, 3, 4, 0, .int 1)] 51 (by decide +kernel) ?_
      show Fx q_TJ_sharedBy 5 sh 51 [some (.ref c), some (.int v1), some (.long v2), none, some (.int (v4 + 1))] [] hp (some (.long res)) hp
      refine Fx.goto (-46) 5 (by decide +kernel) ?_
      obtain rfl := Option.some.inj hf
      have hk : Fx q_TJ_sharedBy 5 sh 5 [some (.ref c), some (.int v1), some (.long v2), none, some (.int (v4 + 1))] [] hp (some (.long res)) hp := hk
      exact Fx.le hk (And.intro rfl (And.intro rfl (And.intro rfl (And.intro rfl trivial))))
    · replace hf := ifn b3 hf
      refine Fx.run [(.lload_n 2, 1, 2, 0, .null), (.aload_n 0, 1, 0, 0, .null), (.getfield 12, 3, 8, 0, .ref 1), (.iload_n 1, 1, 1, 0, .null), (.iload 4, 2, 4, 0, .null)] 42 (by decide +kernel) ?_
      show isK sh c 8 ∧ Fx q_TJ_sharedBy 5 sh 42 [some (.ref c), some (.int v1), some (.long v2), none, some (.int v4)] [.int v4, .int v1, .ref (c + 1), .long v2] hp (some (.long res)) hp
      refine ⟨hS.1, ?_⟩
      replace hf := bnd hf
      obtain ⟨r4, hr4, hf⟩ := hf
      refine Fx.callV (rr := (some (.int r4))) (hp1 := hp) [.int v1, .int v4] [.long v2] lk_8_167 (by decide +kernel) (t_St_sharedLong sh (c + 1) (hS.2.1) hp v1 v4 r4 hr4) ⟨Nat.le_of_ble_eq_true rfl, Nat.le_of_ble_eq_true rfl⟩ (hS.2.1).1 (by decide) rfl (Nat.le_of_ble_eq_true rfl) ?_
      show Fx q_TJ_sharedBy 5 sh 45 [some (.ref c), some (.int v1), some (.long v2), none, some (.int v4)] [.int r4, .long v2] hp (some (.long res)) hp
      refine Fx.run [(.i2l, 1, 0, 0, .null), (.ladd, 1, 0, 0, .null), (.lstore_n 2, 1, 2, 0, .null), (.iinc 4 1, 3, 4, 0, .int 1)] 51 (by decide +kernel) ?_
      show Fx q_TJ_sharedBy 5 sh 51 [some (.ref c), some (.int v1), some (.long (v2 + (Int32.toInt64 r4))), none, some (.int (v4 + 1))] [] hp (some (.long res)) hp
      refine Fx.goto (-46) 5 (by decide +kernel) ?_
      obtain rfl := Option.some.inj hf
      have hk : Fx q_TJ_sharedBy 5 sh 5 [some (.ref c), some (.int v1), some (.long (v2 + (Int32.toInt64 r4))), none, some (.int (v4 + 1))] [] hp (some (.long res)) hp := hk
      exact Fx.le hk (And.intro rfl (And.intro rfl (And.intro rfl (And.intro rfl trivial))))
set_option maxHeartbeats 4000000 in
set_option maxRecDepth 20000 in
theorem t_TJ_sharedBy (sh : Shp) (c : Nat) (hS : S_TJ sh c) (hp : HP) (v1 : Int32) (res : Int64) (hf : f_TJ_sharedBy c hp v1 = some res) : Ex 5 q_TJ_sharedBy sh [.ref c, .int v1] hp (some (.long res)) hp := by
  refine Ex.of [some (.ref c), some (.int v1), none, none, none] rfl (Nat.le_of_ble_eq_true rfl) (by decide +kernel) rfl ?_
  obtain ⟨t, hk⟩ : ∃ t, t = res := ⟨res, rfl⟩
  rw [← hk] at hf
  unfold f_TJ_sharedBy at hf
  refine Fx.run [(.lconst 0, 1, 0, 0, .long 0), (.lstore_n 2, 1, 2, 0, .null), (.iconst 0, 1, 0, 0, .int 0), (.istore 4, 2, 4, 0, .null)] 5 (by decide +kernel) ?_
  show Fx q_TJ_sharedBy 5 sh 5 [some (.ref c), some (.int v1), some (.long 0), none, some (.int 0)] [] hp (some (.long res)) hp
  have hl := t_TJ_sharedBy_l5 sh c hS hp v1 res (0, 0) _ hf hk
  have hl : Fx q_TJ_sharedBy 5 sh 5 [some (.ref c), some (.int v1), some (.long 0), none, some (.int 0)] [] hp (some (.long res)) hp := hl
  exact Fx.le hl (And.intro rfl (And.intro rfl (And.intro rfl (And.intro rfl trivial))))
abbrev P_TJ_shared_21 (sh : Shp) (c : Nat) (hp : HP) (v1 : Int32) (res : Int64) : (Int64 × Int32) → Prop := fun s => Fx q_TJ_shared 6 sh 21 [some (.ref c), some (.int v1), some (.long s.1), none, some (.int s.2)] [] hp (some (.long res)) hp
set_option maxHeartbeats 4000000 in
set_option maxRecDepth 20000 in
theorem t_TJ_shared_j58 (sh : Shp) (c : Nat) (hS : S_TJ sh c) (hp : HP) (v1 : Int32) (v2 : Int64) (v4 : Int32)  (res : Int64) (t : ((Int64 × Int32) ⊕ Int64)) (hf : f_TJ_shared_j58 c hp v1 v2 v4  = some t) (hk : (Kel (P_TJ_shared_21 sh c hp v1 res) (fun v => v = res)) t) : Fx q_TJ_shared 6 sh 58 [some (.ref c), some (.int v1), some (.long v2), none, some (.int v4)] [] hp (some (.long res)) hp := by
  unfold f_TJ_shared_j58 at hf
  refine Fx.run [(.lload_n 2, 1, 2, 0, .null), (.aload_n 0, 1, 0, 0, .null), (.iload 4, 2, 4, 0, .null)] 62 (by decide +kernel) ?_
  show Fx q_TJ_shared 6 sh 62 [some (.ref c), some (.int v1), some (.long v2), none, some (.int v4)] [.int v4, .ref c, .long v2] hp (some (.long res)) hp
  replace hf := bnd hf
  obtain ⟨r4, hr4, hf⟩ := hf
  refine Fx.callV (rr := (some (.long r4))) (hp1 := hp) [.int v4] [.long v2] lk_8_252 (by decide +kernel) (t_TJ_sharedBy sh c (hS) hp v4 r4 hr4) ⟨Nat.le_of_ble_eq_true rfl, Nat.le_of_ble_eq_true rfl⟩ (hS).1 (by decide) rfl (Nat.le_of_ble_eq_true rfl) ?_
  show Fx q_TJ_shared 6 sh 65 [some (.ref c), some (.int v1), some (.long v2), none, some (.int v4)] [.long r4, .long v2] hp (some (.long res)) hp
  refine Fx.run [(.ladd, 1, 0, 0, .null), (.lstore_n 2, 1, 2, 0, .null), (.iinc 4 1, 3, 4, 0, .int 1)] 70 (by decide +kernel) ?_
  show Fx q_TJ_shared 6 sh 70 [some (.ref c), some (.int v1), some (.long (v2 + r4)), none, some (.int (v4 + 1))] [] hp (some (.long res)) hp
  refine Fx.goto (-49) 21 (by decide +kernel) ?_
  obtain rfl := Option.some.inj hf
  have hk : Fx q_TJ_shared 6 sh 21 [some (.ref c), some (.int v1), some (.long (v2 + r4)), none, some (.int (v4 + 1))] [] hp (some (.long res)) hp := hk
  exact Fx.le hk (And.intro rfl (And.intro rfl (And.intro rfl (And.intro rfl trivial))))
set_option maxHeartbeats 4000000 in
set_option maxRecDepth 20000 in
theorem t_TJ_shared_l21 (sh : Shp) (c : Nat) (hS : S_TJ sh c) (hp : HP) (v1 : Int32) (res : Int64) : ∀ (s : (Int64 × Int32)) (t : Int64), f_TJ_shared_l21 c hp v1 s = some t → (fun v => v = res) t → P_TJ_shared_21 sh c hp v1 res s := by
  refine loop_ind (P_TJ_shared_21 sh c hp v1 res) (fun v => v = res) ?_
  intro s t hf hk
  obtain ⟨v2, v4⟩ := s
  replace hf : f_TJ_shared_b21 c hp v1 v2 v4 = some t := hf
  show Fx q_TJ_shared 6 sh 21 [some (.ref c), some (.int v1), some (.long v2), none, some (.int v4)] [] hp (some (.long res)) hp
  unfold f_TJ_shared_b21 at hf
  refine Fx.run [(.iload 4, 2, 4, 0, .null), (.aload_n 0, 1, 0, 0, .null), (.getfield 12, 3, 8, 0, .ref 1), (.getfield 243, 3, 5, 0, .ref 1), (.getfield 88, 3, 4, 5, .null)] 33 (by decide +kernel) ?_
  show isK sh c 8 ∧ isK sh (c + 1) 5 ∧ isK sh ((c + 1) + 1) 4 ∧ Fx q_TJ_shared 6 sh 33 [some (.ref c), some (.int v1), some (.long v2), none, some (.int v4)] [.int (hp.1 ((c + 1) + 1) 5), .int v4] hp (some (.long res)) hp
  refine ⟨hS.1, hS.2.1.1, hS.2.1.2.1.1, ?_⟩
  refine Fx.icmp_ge (40) 73 36 (by decide +kernel) (fun b2 => ?_) (fun b2 => ?_)
  · replace hf := ifp b2 hf
    replace hf := mpd hf
    obtain ⟨t, hf, rfl⟩ := hf
    refine Fx.run [(.lload_n 2, 1, 2, 0, .null)] 74 (by decide +kernel) ?_
    show Fx q_TJ_shared 6 sh 74 [some (.ref c), some (.int v1), some (.long v2), none, some (.int v4)] [.long v2] hp (some (.long res)) hp
    obtain rfl := Option.some.inj hf
    have hk : v2 = res := hk
    subst hk
    exact Fx.lret (by decide +kernel) rfl
  · replace hf := ifn b2 hf
    refine Fx.run [(.iload_n 1, 1, 1, 0, .null), (.iconst (-1), 1, 0, 0, .int (-1))] 38 (by decide +kernel) ?_
    show Fx q_TJ_shared 6 sh 38 [some (.ref c), some (.int v1), some (.long v2), none, some (.int v4)] [.int (-1), .int v1] hp (some (.long res)) hp
    refine Fx.icmp_eq (20) 58 41 (by decide +kernel) (fun b3 => ?_) (fun b3 => ?_)
    · replace hf := ifp b3 hf
      have hl := t_TJ_shared_j58 sh c hS hp v1 v2 v4  res _ hf hk
      exact Fx.le hl (And.intro rfl (And.intro rfl (And.intro rfl (And.intro rfl trivial))))
    · replace hf := ifn b3 hf
      replace hf := gd hf
      obtain ⟨g5, hf⟩ := hf
      refine Fx.run [(.aload_n 0, 1, 0, 0, .null), (.getfield 12, 3, 8, 0, .ref 1), (.getfield 243, 3, 5, 0, .ref 1), (.getfield 102, 3, 4, 1, .ref 2), (.iload 4, 2, 4, 0, .null), (.iaload, 1, 40, 0, .null), (.iload_n 1, 1, 1, 0, .null)] 55 (by decide +kernel) ?_
      show isK sh c 8 ∧ isK sh (c + 1) 5 ∧ isK sh ((c + 1) + 1) 4 ∧ (isA sh (((c + 1) + 1) + 2) 10 40 ∧ inb v4 40) ∧ Fx q_TJ_shared 6 sh 55 [some (.ref c), some (.int v1), some (.long v2), none, some (.int v4)] [.int v1, .int (hp.1 (((c + 1) + 1) + 2) (ix v4))] hp (some (.long res)) hp
      refine ⟨hS.1, hS.2.1.1, hS.2.1.2.1.1, ⟨hS.2.1.2.1.2.2.1, g5⟩, ?_⟩
      refine Fx.icmp_ne (12) 67 58 (by decide +kernel) (fun b6 => ?_) (fun b6 => ?_)
      · replace hf := ifn b6 hf
        refine Fx.run [(.iinc 4 1, 3, 4, 0, .int 1)] 70 (by decide +kernel) ?_
        show Fx q_TJ_shared 6 sh 70 [some (.ref c), some (.int v1), some (.long v2), none, some (.int (v4 + 1))] [] hp (some (.long res)) hp
        refine Fx.goto (-49) 21 (by decide +kernel) ?_
        obtain rfl := Option.some.inj hf
        have hk : Fx q_TJ_shared 6 sh 21 [some (.ref c), some (.int v1), some (.long v2), none, some (.int (v4 + 1))] [] hp (some (.long res)) hp := hk
        exact Fx.le hk (And.intro rfl (And.intro rfl (And.intro rfl (And.intro rfl trivial))))
      · replace hf := ifp b6 hf
        have hl := t_TJ_shared_j58 sh c hS hp v1 v2 v4  res _ hf hk
        exact Fx.le hl (And.intro rfl (And.intro rfl (And.intro rfl (And.intro rfl trivial))))
set_option maxHeartbeats 4000000 in
set_option maxRecDepth 20000 in
theorem t_TJ_shared (sh : Shp) (c : Nat) (hS : S_TJ sh c) (hp : HP) (v1 : Int32) (res : Int64) (hf : f_TJ_shared c hp v1 = some res) : Ex 6 q_TJ_shared sh [.ref c, .int v1] hp (some (.long res)) hp := by
  refine Ex.of [some (.ref c), some (.int v1), none, none, none] rfl (Nat.le_of_ble_eq_true rfl) (by decide +kernel) rfl ?_
  obtain ⟨t, hk⟩ : ∃ t, t = res := ⟨res, rfl⟩
  rw [← hk] at hf
  unfold f_TJ_shared at hf
  refine Fx.run [(.iload_n 1, 1, 1, 0, .null), (.iconst (-1), 1, 0, 0, .int (-1))] 2 (by decide +kernel) ?_
  show Fx q_TJ_shared 6 sh 2 [some (.ref c), some (.int v1), none, none, none] [.int (-1), .int v1] hp (some (.long res)) hp
  refine Fx.icmp_eq (14) 16 5 (by decide +kernel) (fun b1 => ?_) (fun b1 => ?_)
  · replace hf := ifp b1 hf
    refine Fx.run [(.lconst 0, 1, 0, 0, .long 0), (.lstore_n 2, 1, 2, 0, .null), (.iconst 0, 1, 0, 0, .int 0), (.istore 4, 2, 4, 0, .null)] 21 (by decide +kernel) ?_
    show Fx q_TJ_shared 6 sh 21 [some (.ref c), some (.int v1), some (.long 0), none, some (.int 0)] [] hp (some (.long res)) hp
    have hl := t_TJ_shared_l21 sh c hS hp v1 res (0, 0) _ hf hk
    have hl : Fx q_TJ_shared 6 sh 21 [some (.ref c), some (.int v1), some (.long 0), none, some (.int 0)] [] hp (some (.long res)) hp := hl
    exact Fx.le hl (And.intro rfl (And.intro rfl (And.intro rfl (And.intro rfl trivial))))
  · replace hf := ifn b1 hf
    refine Fx.run [(.iload_n 1, 1, 1, 0, .null)] 6 (by decide +kernel) ?_
    show Fx q_TJ_shared 6 sh 6 [some (.ref c), some (.int v1), none, none, none] [.int v1] hp (some (.long res)) hp
    replace hf := bnd hf
    obtain ⟨r7, hr7, hf⟩ := hf
    refine Fx.callS (rr := (some (.int r7))) (hp1 := hp) [.int v1] [] lk_8_249 (by decide +kernel) (t_TJ_isKey sh hp v1 r7 hr7) ⟨Nat.le_of_ble_eq_true rfl, Nat.le_of_ble_eq_true rfl⟩ rfl (Nat.le_of_ble_eq_true rfl) ?_
    show Fx q_TJ_shared 6 sh 9 [some (.ref c), some (.int v1), none, none, none] [.int r7] hp (some (.long res)) hp
    refine Fx.if_ne (7) 16 12 (by decide +kernel) (fun b8 => ?_) (fun b8 => ?_)
    · replace hf := ifn b8 hf
      refine Fx.run [(.lconst 0, 1, 0, 0, .long 0), (.lstore_n 2, 1, 2, 0, .null), (.iconst 0, 1, 0, 0, .int 0), (.istore 4, 2, 4, 0, .null)] 21 (by decide +kernel) ?_
      show Fx q_TJ_shared 6 sh 21 [some (.ref c), some (.int v1), some (.long 0), none, some (.int 0)] [] hp (some (.long res)) hp
      have hl := t_TJ_shared_l21 sh c hS hp v1 res (0, 0) _ hf hk
      have hl : Fx q_TJ_shared 6 sh 21 [some (.ref c), some (.int v1), some (.long 0), none, some (.int 0)] [] hp (some (.long res)) hp := hl
      exact Fx.le hl (And.intro rfl (And.intro rfl (And.intro rfl (And.intro rfl trivial))))
    · replace hf := ifp b8 hf
      refine Fx.run [(.ldc2_w 238, 3, 0, 0, .long (-1))] 15 (by decide +kernel) ?_
      show Fx q_TJ_shared 6 sh 15 [some (.ref c), some (.int v1), none, none, none] [.long (-1)] hp (some (.long res)) hp
      obtain rfl := Option.some.inj hf
      have hk : (-1) = res := hk
      subst hk
      exact Fx.lret (by decide +kernel) rfl
abbrev P_St_countPartners_17 (sh : Shp) (c : Nat) (hp : HP) (v1 : Int32) (v2 : Int32) (v4 : Int32) (res : Int32) : (Int32 × Int32) → Prop := fun s => Fx q_St_countPartners 5 sh 17 [some (.ref c), some (.int v1), some (.int v2), some (.int s.1), some (.int v4), some (.int s.2)] [] hp (some (.int res)) hp
set_option maxHeartbeats 4000000 in
set_option maxRecDepth 20000 in
theorem t_St_countPartners_l17 (sh : Shp) (c : Nat) (hS : S_St sh c) (hp : HP) (v1 : Int32) (v2 : Int32) (v4 : Int32) (res : Int32) : ∀ (s : (Int32 × Int32)) (t : Int32), f_St_countPartners_l17 c hp v1 v2 v4 s = some t → (fun v => v = res) t → P_St_countPartners_17 sh c hp v1 v2 v4 res s := by
  refine loop_ind (P_St_countPartners_17 sh c hp v1 v2 v4 res) (fun v => v = res) ?_
  intro s t hf hk
  obtain ⟨v3, v5⟩ := s
  replace hf : f_St_countPartners_b17 c hp v1 v2 v4 v3 v5 = some t := hf
  show Fx q_St_countPartners 5 sh 17 [some (.ref c), some (.int v1), some (.int v2), some (.int v3), some (.int v4), some (.int v5)] [] hp (some (.int res)) hp
  unfold f_St_countPartners_b17 at hf
  refine Fx.run [(.iload 5, 2, 5, 0, .null), (.iload 4, 2, 4, 0, .null)] 21 (by decide +kernel) ?_
  show Fx q_St_countPartners 5 sh 21 [some (.ref c), some (.int v1), some (.int v2), some (.int v3), some (.int v4), some (.int v5)] [.int v4, .int v5] hp (some (.int res)) hp
  refine Fx.icmp_ge (23) 44 24 (by decide +kernel) (fun b2 => ?_) (fun b2 => ?_)
  · replace hf := ifp b2 hf
    replace hf := mpd hf
    obtain ⟨t, hf, rfl⟩ := hf
    refine Fx.run [(.iload_n 3, 1, 3, 0, .null)] 45 (by decide +kernel) ?_
    show Fx q_St_countPartners 5 sh 45 [some (.ref c), some (.int v1), some (.int v2), some (.int v3), some (.int v4), some (.int v5)] [.int v3] hp (some (.int res)) hp
    obtain rfl := Option.some.inj hf
    have hk : v3 = res := hk
    subst hk
    exact Fx.iret (by decide +kernel) rfl
  · replace hf := ifn b2 hf
    refine Fx.run [(.aload_n 0, 1, 0, 0, .null), (.iload_n 1, 1, 1, 0, .null), (.iload_n 2, 1, 2, 0, .null), (.iload 5, 2, 5, 0, .null)] 29 (by decide +kernel) ?_
    show Fx q_St_countPartners 5 sh 29 [some (.ref c), some (.int v1), some (.int v2), some (.int v3), some (.int v4), some (.int v5)] [.int v5, .int v2, .int v1, .ref c] hp (some (.int res)) hp
    replace hf := bnd hf
    obtain ⟨r3, hr3, hf⟩ := hf
    refine Fx.callV (rr := (some (.int r3))) (hp1 := hp) [.int v1, .int v2, .int v5] [] lk_5_98 (by decide +kernel) (t_St_arePartners sh c (hS) hp v1 v2 v5 r3 hr3) ⟨Nat.le_of_ble_eq_true rfl, Nat.le_of_ble_eq_true rfl⟩ (hS).1 (by decide) rfl (Nat.le_of_ble_eq_true rfl) ?_
    show Fx q_St_countPartners 5 sh 32 [some (.ref c), some (.int v1), some (.int v2), some (.int v3), some (.int v4), some (.int v5)] [.int r3] hp (some (.int res)) hp
    refine Fx.if_eq (6) 38 35 (by decide +kernel) (fun b4 => ?_) (fun b4 => ?_)
    · replace hf := ifp b4 hf
      refine Fx.run [(.iinc 5 1, 3, 5, 0, .int 1)] 41 (by decide +kernel) ?_
      show Fx q_St_countPartners 5 sh 41 [some (.ref c), some (.int v1), some (.int v2), some (.int v3), some (.int v4), some (.int (v5 + 1))] [] hp (some (.int res)) hp
      refine Fx.goto (-24) 17 (by decide +kernel) ?_
      obtain rfl := Option.some.inj hf
      have hk : Fx q_St_countPartners 5 sh 17 [some (.ref c), some (.int v1), some (.int v2), some (.int v3), some (.int v4), some (.int (v5 + 1))] [] hp (some (.int res)) hp := hk
      exact Fx.le hk (And.intro rfl (And.intro rfl (And.intro rfl (And.intro rfl (And.intro rfl (And.intro rfl trivial))))))
    · replace hf := ifn b4 hf
      refine Fx.run [(.iinc 3 1, 3, 3, 0, .int 1), (.iinc 5 1, 3, 5, 0, .int 1)] 41 (by decide +kernel) ?_
      show Fx q_St_countPartners 5 sh 41 [some (.ref c), some (.int v1), some (.int v2), some (.int (v3 + 1)), some (.int v4), some (.int (v5 + 1))] [] hp (some (.int res)) hp
      refine Fx.goto (-24) 17 (by decide +kernel) ?_
      obtain rfl := Option.some.inj hf
      have hk : Fx q_St_countPartners 5 sh 17 [some (.ref c), some (.int v1), some (.int v2), some (.int (v3 + 1)), some (.int v4), some (.int (v5 + 1))] [] hp (some (.int res)) hp := hk
      exact Fx.le hk (And.intro rfl (And.intro rfl (And.intro rfl (And.intro rfl (And.intro rfl (And.intro rfl trivial))))))
set_option maxHeartbeats 4000000 in
set_option maxRecDepth 20000 in
theorem t_St_countPartners (sh : Shp) (c : Nat) (hS : S_St sh c) (hp : HP) (v1 : Int32) (v2 : Int32) (res : Int32) (hf : f_St_countPartners c hp v1 v2 = some res) : Ex 5 q_St_countPartners sh [.ref c, .int v1, .int v2] hp (some (.int res)) hp := by
  refine Ex.of [some (.ref c), some (.int v1), some (.int v2), none, none, none] rfl (Nat.le_of_ble_eq_true rfl) (by decide +kernel) rfl ?_
  obtain ⟨t, hk⟩ : ∃ t, t = res := ⟨res, rfl⟩
  rw [← hk] at hf
  unfold f_St_countPartners at hf
  refine Fx.run [(.iconst 0, 1, 0, 0, .int 0), (.istore_n 3, 1, 3, 0, .null), (.aload_n 0, 1, 0, 0, .null), (.iconst 1, 1, 0, 0, .int 1), (.iload_n 1, 1, 1, 0, .null), (.isub, 1, 0, 0, .null)] 6 (by decide +kernel) ?_
  show Fx q_St_countPartners 5 sh 6 [some (.ref c), some (.int v1), some (.int v2), some (.int 0), none, none] [.int (1 - v1), .ref c] hp (some (.int res)) hp
  replace hf := bnd hf
  obtain ⟨r1, hr1, hf⟩ := hf
  refine Fx.callV (rr := (some (.ref r1))) (hp1 := hp) [.int (1 - v1)] [] lk_5_66 (by decide +kernel) (t_St_rowsOf sh c (hS) hp (1 - v1) r1 hr1) ⟨Nat.le_of_ble_eq_true rfl, Nat.le_of_ble_eq_true rfl⟩ (hS).1 (by decide) rfl (Nat.le_of_ble_eq_true rfl) ?_
  show Fx q_St_countPartners 5 sh 9 [some (.ref c), some (.int v1), some (.int v2), some (.int 0), none, none] [.ref r1] hp (some (.int res)) hp
  refine Fx.run [(.getfield 95, 3, 4, 5, .null), (.istore 4, 2, 4, 0, .null), (.iconst 0, 1, 0, 0, .int 0), (.istore 5, 2, 5, 0, .null)] 17 (by decide +kernel) ?_
  show isK sh r1 4 ∧ Fx q_St_countPartners 5 sh 17 [some (.ref c), some (.int v1), some (.int v2), some (.int 0), some (.int (hp.1 r1 5)), some (.int 0)] [] hp (some (.int res)) hp
  refine ⟨(rowsOf_S hS hr1).1, ?_⟩
  have hl := t_St_countPartners_l17 sh c hS hp v1 v2 (hp.1 r1 5) res (0, 0) _ hf hk
  have hl : Fx q_St_countPartners 5 sh 17 [some (.ref c), some (.int v1), some (.int v2), some (.int 0), some (.int (hp.1 r1 5)), some (.int 0)] [] hp (some (.int res)) hp := hl
  exact Fx.le hl (And.intro rfl (And.intro rfl (And.intro rfl (And.intro rfl (And.intro rfl (And.intro rfl trivial))))))
abbrev P_TJ_mostPartners_4 (sh : Shp) (c : Nat) (hp : HP)  (res : Int32) : (Int32 × Int32) → Prop := fun s => Fx q_TJ_mostPartners 6 sh 4 [some (.ref c), some (.int s.1), some (.int s.2), none, none] [] hp (some (.int res)) hp
abbrev P_TJ_mostPartners_24 (sh : Shp) (c : Nat) (hp : HP) (v2 : Int32) (v3 : Int32) (res : Int32) : (Int32 × Int32) → Prop := fun s => Fx q_TJ_mostPartners 6 sh 24 [some (.ref c), some (.int s.1), some (.int v2), some (.int v3), some (.int s.2)] [] hp (some (.int res)) hp
set_option maxHeartbeats 4000000 in
set_option maxRecDepth 20000 in
theorem t_TJ_mostPartners_l24 (sh : Shp) (c : Nat) (hS : S_TJ sh c) (hp : HP) (v2 : Int32) (v3 : Int32) (res : Int32) : ∀ (s : (Int32 × Int32)) (t : ((Int32 × Int32) ⊕ Int32)), f_TJ_mostPartners_l24 c hp v2 v3 s = some t → (Kel (P_TJ_mostPartners_4 sh c hp  res) (fun v => v = res)) t → P_TJ_mostPartners_24 sh c hp v2 v3 res s := by
  refine loop_ind (P_TJ_mostPartners_24 sh c hp v2 v3 res) (Kel (P_TJ_mostPartners_4 sh c hp  res) (fun v => v = res)) ?_
  intro s t hf hk
  obtain ⟨v1, v4⟩ := s
  replace hf : f_TJ_mostPartners_b24 c hp v2 v3 v1 v4 = some t := hf
  show Fx q_TJ_mostPartners 6 sh 24 [some (.ref c), some (.int v1), some (.int v2), some (.int v3), some (.int v4)] [] hp (some (.int res)) hp
  unfold f_TJ_mostPartners_b24 at hf
  refine Fx.run [(.iload 4, 2, 4, 0, .null), (.iload_n 3, 1, 3, 0, .null)] 27 (by decide +kernel) ?_
  show Fx q_TJ_mostPartners 6 sh 27 [some (.ref c), some (.int v1), some (.int v2), some (.int v3), some (.int v4)] [.int v3, .int v4] hp (some (.int res)) hp
  refine Fx.icmp_ge (24) 51 30 (by decide +kernel) (fun b3 => ?_) (fun b3 => ?_)
  · replace hf := ifp b3 hf
    replace hf := mpd hf
    obtain ⟨t, hf, rfl⟩ := hf
    refine Fx.run [(.iinc 2 1, 3, 2, 0, .int 1)] 54 (by decide +kernel) ?_
    show Fx q_TJ_mostPartners 6 sh 54 [some (.ref c), some (.int v1), some (.int (v2 + 1)), some (.int v3), some (.int v4)] [] hp (some (.int res)) hp
    refine Fx.goto (-50) 4 (by decide +kernel) ?_
    obtain rfl := Option.some.inj hf
    have hk : Fx q_TJ_mostPartners 6 sh 4 [some (.ref c), some (.int v1), some (.int (v2 + 1)), none, none] [] hp (some (.int res)) hp := hk
    exact Fx.le hk (And.intro rfl (And.intro rfl (And.intro rfl trivial)))
  · replace hf := ifn b3 hf
    refine Fx.run [(.iload_n 1, 1, 1, 0, .null), (.aload_n 0, 1, 0, 0, .null), (.getfield 12, 3, 8, 0, .ref 1), (.iload_n 2, 1, 2, 0, .null), (.iload 4, 2, 4, 0, .null)] 38 (by decide +kernel) ?_
    show isK sh c 8 ∧ Fx q_TJ_mostPartners 6 sh 38 [some (.ref c), some (.int v1), some (.int v2), some (.int v3), some (.int v4)] [.int v4, .int v2, .ref (c + 1), .int v1] hp (some (.int res)) hp
    refine ⟨hS.1, ?_⟩
    replace hf := bnd hf
    obtain ⟨r4, hr4, hf⟩ := hf
    refine Fx.callV (rr := (some (.int r4))) (hp1 := hp) [.int v2, .int v4] [.int v1] lk_8_259 (by decide +kernel) (t_St_countPartners sh (c + 1) (hS.2.1) hp v2 v4 r4 hr4) ⟨Nat.le_of_ble_eq_true rfl, Nat.le_of_ble_eq_true rfl⟩ (hS.2.1).1 (by decide) rfl (Nat.le_of_ble_eq_true rfl) ?_
    show Fx q_TJ_mostPartners 6 sh 41 [some (.ref c), some (.int v1), some (.int v2), some (.int v3), some (.int v4)] [.int r4, .int v1] hp (some (.int res)) hp
    refine Fx.mmax lk_8_262 (by decide +kernel) (by decide) (Nat.le_of_ble_eq_true rfl) ?_
    show Fx q_TJ_mostPartners 6 sh 44 [some (.ref c), some (.int v1), some (.int v2), some (.int v3), some (.int v4)] [.int (if v1 < r4 then r4 else v1)] hp (some (.int res)) hp
    refine Fx.run [(.istore_n 1, 1, 1, 0, .null), (.iinc 4 1, 3, 4, 0, .int 1)] 48 (by decide +kernel) ?_
    show Fx q_TJ_mostPartners 6 sh 48 [some (.ref c), some (.int (if v1 < r4 then r4 else v1)), some (.int v2), some (.int v3), some (.int (v4 + 1))] [] hp (some (.int res)) hp
    refine Fx.goto (-24) 24 (by decide +kernel) ?_
    obtain rfl := Option.some.inj hf
    have hk : Fx q_TJ_mostPartners 6 sh 24 [some (.ref c), some (.int (if v1 < r4 then r4 else v1)), some (.int v2), some (.int v3), some (.int (v4 + 1))] [] hp (some (.int res)) hp := hk
    exact Fx.le hk (And.intro rfl (And.intro rfl (And.intro rfl (And.intro rfl (And.intro rfl trivial)))))
set_option maxHeartbeats 4000000 in
set_option maxRecDepth 20000 in
theorem t_TJ_mostPartners_l4 (sh : Shp) (c : Nat) (hS : S_TJ sh c) (hp : HP)  (res : Int32) : ∀ (s : (Int32 × Int32)) (t : Int32), f_TJ_mostPartners_l4 c hp  s = some t → (fun v => v = res) t → P_TJ_mostPartners_4 sh c hp  res s := by
  refine loop_ind (P_TJ_mostPartners_4 sh c hp  res) (fun v => v = res) ?_
  intro s t hf hk
  obtain ⟨v1, v2⟩ := s
  replace hf : f_TJ_mostPartners_b4 c hp  v1 v2 = some t := hf
  show Fx q_TJ_mostPartners 6 sh 4 [some (.ref c), some (.int v1), some (.int v2), none, none] [] hp (some (.int res)) hp
  unfold f_TJ_mostPartners_b4 at hf
  refine Fx.run [(.iload_n 2, 1, 2, 0, .null), (.iconst 2, 1, 0, 0, .int 2)] 6 (by decide +kernel) ?_
  show Fx q_TJ_mostPartners 6 sh 6 [some (.ref c), some (.int v1), some (.int v2), none, none] [.int 2, .int v2] hp (some (.int res)) hp
  refine Fx.icmp_ge (51) 57 9 (by decide +kernel) (fun b1 => ?_) (fun b1 => ?_)
  · replace hf := ifp b1 hf
    replace hf := mpd hf
    obtain ⟨t, hf, rfl⟩ := hf
    refine Fx.run [(.iload_n 1, 1, 1, 0, .null)] 58 (by decide +kernel) ?_
    show Fx q_TJ_mostPartners 6 sh 58 [some (.ref c), some (.int v1), some (.int v2), none, none] [.int v1] hp (some (.int res)) hp
    obtain rfl := Option.some.inj hf
    have hk : v1 = res := hk
    subst hk
    exact Fx.iret (by decide +kernel) rfl
  · replace hf := ifn b1 hf
    refine Fx.run [(.aload_n 0, 1, 0, 0, .null), (.getfield 12, 3, 8, 0, .ref 1), (.iload_n 2, 1, 2, 0, .null)] 14 (by decide +kernel) ?_
    show isK sh c 8 ∧ Fx q_TJ_mostPartners 6 sh 14 [some (.ref c), some (.int v1), some (.int v2), none, none] [.int v2, .ref (c + 1)] hp (some (.int res)) hp
    refine ⟨hS.1, ?_⟩
    replace hf := bnd hf
    obtain ⟨r2, hr2, hf⟩ := hf
    refine Fx.callV (rr := (some (.ref r2))) (hp1 := hp) [.int v2] [] lk_8_95 (by decide +kernel) (t_St_rowsOf sh (c + 1) (hS.2.1) hp v2 r2 hr2) ⟨Nat.le_of_ble_eq_true rfl, Nat.le_of_ble_eq_true rfl⟩ (hS.2.1).1 (by decide) rfl (Nat.le_of_ble_eq_true rfl) ?_
    show Fx q_TJ_mostPartners 6 sh 17 [some (.ref c), some (.int v1), some (.int v2), none, none] [.ref r2] hp (some (.int res)) hp
    refine Fx.run [(.getfield 88, 3, 4, 5, .null), (.istore_n 3, 1, 3, 0, .null), (.iconst 0, 1, 0, 0, .int 0), (.istore 4, 2, 4, 0, .null)] 24 (by decide +kernel) ?_
    show isK sh r2 4 ∧ Fx q_TJ_mostPartners 6 sh 24 [some (.ref c), some (.int v1), some (.int v2), some (.int (hp.1 r2 5)), some (.int 0)] [] hp (some (.int res)) hp
    refine ⟨(rowsOf_S hS.2.1 hr2).1, ?_⟩
    have hl := t_TJ_mostPartners_l24 sh c hS hp v2 (hp.1 r2 5) res (v1, 0) _ hf hk
    have hl : Fx q_TJ_mostPartners 6 sh 24 [some (.ref c), some (.int v1), some (.int v2), some (.int (hp.1 r2 5)), some (.int 0)] [] hp (some (.int res)) hp := hl
    exact Fx.le hl (And.intro rfl (And.intro rfl (And.intro rfl (And.intro rfl (And.intro rfl trivial)))))
set_option maxHeartbeats 4000000 in
set_option maxRecDepth 20000 in
theorem t_TJ_mostPartners (sh : Shp) (c : Nat) (hS : S_TJ sh c) (hp : HP)  (res : Int32) (hf : f_TJ_mostPartners c hp  = some res) : Ex 6 q_TJ_mostPartners sh [.ref c] hp (some (.int res)) hp := by
  refine Ex.of [some (.ref c), none, none, none, none] rfl (Nat.le_of_ble_eq_true rfl) (by decide +kernel) rfl ?_
  obtain ⟨t, hk⟩ : ∃ t, t = res := ⟨res, rfl⟩
  rw [← hk] at hf
  unfold f_TJ_mostPartners at hf
  refine Fx.run [(.iconst 0, 1, 0, 0, .int 0), (.istore_n 1, 1, 1, 0, .null), (.iconst 0, 1, 0, 0, .int 0), (.istore_n 2, 1, 2, 0, .null)] 4 (by decide +kernel) ?_
  show Fx q_TJ_mostPartners 6 sh 4 [some (.ref c), some (.int 0), some (.int 0), none, none] [] hp (some (.int res)) hp
  have hl := t_TJ_mostPartners_l4 sh c hS hp  res (0, 0) _ hf hk
  have hl : Fx q_TJ_mostPartners 6 sh 4 [some (.ref c), some (.int 0), some (.int 0), none, none] [] hp (some (.int res)) hp := hl
  exact Fx.le hl (And.intro rfl (And.intro rfl (And.intro rfl trivial)))
abbrev P_TJ_weight_33 (sh : Shp) (c : Nat) (hp : HP) (v2 : Int32) (v3 : Nat) (res : Int64) : (Int64 × Int32) → Prop := fun s => Fx q_TJ_weight 3 sh 33 [some (.ref c), none, some (.int v2), some (.ref v3), some (.long s.1), none, some (.int s.2)] [] hp (some (.long res)) hp
set_option maxHeartbeats 4000000 in
set_option maxRecDepth 20000 in
theorem t_TJ_weight_l33 (sh : Shp) (c : Nat) (hS : S_TJ sh c) (hp : HP) (v2 : Int32) (v3 : Nat) (hv3 : S_Ro sh v3) (res : Int64) : ∀ (s : (Int64 × Int32)) (t : Int64), f_TJ_weight_l33 c hp v2 v3 s = some t → (fun v => v = res) t → P_TJ_weight_33 sh c hp v2 v3 res s := by
  refine loop_ind (P_TJ_weight_33 sh c hp v2 v3 res) (fun v => v = res) ?_
  intro s t hf hk
  obtain ⟨v4, v6⟩ := s
  replace hf : f_TJ_weight_b33 c hp v2 v3 v4 v6 = some t := hf
  show Fx q_TJ_weight 3 sh 33 [some (.ref c), none, some (.int v2), some (.ref v3), some (.long v4), none, some (.int v6)] [] hp (some (.long res)) hp
  unfold f_TJ_weight_b33 at hf
  refine Fx.run [(.iload 6, 2, 6, 0, .null), (.aload_n 3, 1, 3, 0, .null), (.getfield 88, 3, 4, 5, .null)] 39 (by decide +kernel) ?_
  show isK sh v3 4 ∧ Fx q_TJ_weight 3 sh 39 [some (.ref c), none, some (.int v2), some (.ref v3), some (.long v4), none, some (.int v6)] [.int (hp.1 v3 5), .int v6] hp (some (.long res)) hp
  refine ⟨hv3.1, ?_⟩
  refine Fx.icmp_ge (41) 80 42 (by decide +kernel) (fun b6 => ?_) (fun b6 => ?_)
  · replace hf := ifp b6 hf
    replace hf := mpd hf
    obtain ⟨t, hf, rfl⟩ := hf
    refine Fx.run [(.lload 4, 2, 4, 0, .null)] 82 (by decide +kernel) ?_
    show Fx q_TJ_weight 3 sh 82 [some (.ref c), none, some (.int v2), some (.ref v3), some (.long v4), none, some (.int v6)] [.long v4] hp (some (.long res)) hp
    obtain rfl := Option.some.inj hf
    have hk : v4 = res := hk
    subst hk
    exact Fx.lret (by decide +kernel) rfl
  · replace hf := ifn b6 hf
    replace hf := gd hf
    obtain ⟨g7, hf⟩ := hf
    refine Fx.run [(.aload_n 3, 1, 3, 0, .null), (.getfield 102, 3, 4, 1, .ref 2), (.iload 6, 2, 6, 0, .null), (.iaload, 1, 40, 0, .null), (.iload_n 2, 1, 2, 0, .null)] 50 (by decide +kernel) ?_
    show isK sh v3 4 ∧ (isA sh (v3 + 2) 10 40 ∧ inb v6 40) ∧ Fx q_TJ_weight 3 sh 50 [some (.ref c), none, some (.int v2), some (.ref v3), some (.long v4), none, some (.int v6)] [.int v2, .int (hp.1 (v3 + 2) (ix v6))] hp (some (.long res)) hp
    refine ⟨hv3.1, ⟨hv3.2.2.1, g7⟩, ?_⟩
    refine Fx.icmp_ne (24) 74 53 (by decide +kernel) (fun b8 => ?_) (fun b8 => ?_)
    · replace hf := ifn b8 hf
      refine Fx.run [(.iinc 6 1, 3, 6, 0, .int 1)] 77 (by decide +kernel) ?_
      show Fx q_TJ_weight 3 sh 77 [some (.ref c), none, some (.int v2), some (.ref v3), some (.long v4), none, some (.int (v6 + 1))] [] hp (some (.long res)) hp
      refine Fx.goto (-44) 33 (by decide +kernel) ?_
      obtain rfl := Option.some.inj hf
      have hk : Fx q_TJ_weight 3 sh 33 [some (.ref c), none, some (.int v2), some (.ref v3), some (.long v4), none, some (.int (v6 + 1))] [] hp (some (.long res)) hp := hk
      exact Fx.le hk (And.intro rfl (And.intro rfl (And.intro rfl (And.intro rfl (And.intro rfl trivial)))))
    · replace hf := ifp b8 hf
      replace hf := gd hf
      obtain ⟨g9, hf⟩ := hf
      refine Fx.run [(.lload 4, 2, 4, 0, .null), (.aload_n 3, 1, 3, 0, .null), (.getfield 119, 3, 4, 4, .ref 5), (.iload 6, 2, 6, 0, .null), (.iaload, 1, 40, 0, .null), (.i2l, 1, 0, 0, .null), (.aload_n 3, 1, 3, 0, .null), (.iload 6, 2, 6, 0, .null)] 66 (by decide +kernel) ?_
      show isK sh v3 4 ∧ (isA sh (v3 + 5) 10 40 ∧ inb v6 40) ∧ Fx q_TJ_weight 3 sh 66 [some (.ref c), none, some (.int v2), some (.ref v3), some (.long v4), none, some (.int v6)] [.int v6, .ref v3, .long (Int32.toInt64 (hp.1 (v3 + 5) (ix v6))), .long v4] hp (some (.long res)) hp
      refine ⟨hv3.1, ⟨hv3.2.2.2.2.2, g9⟩, ?_⟩
      replace hf := bnd hf
      obtain ⟨r10, hr10, hf⟩ := hf
      refine Fx.callV (rr := (some (.int r10))) (hp1 := hp) [.int v6] [.long (Int32.toInt64 (hp.1 (v3 + 5) (ix v6))), .long v4] lk_8_192 (by decide +kernel) (t_Ro_longOf sh v3 (hv3) hp v6 r10 hr10) ⟨Nat.le_of_ble_eq_true rfl, Nat.le_of_ble_eq_true rfl⟩ (hv3).1 (by decide) rfl (Nat.le_of_ble_eq_true rfl) ?_
      show Fx q_TJ_weight 3 sh 69 [some (.ref c), none, some (.int v2), some (.ref v3), some (.long v4), none, some (.int v6)] [.int r10, .long (Int32.toInt64 (hp.1 (v3 + 5) (ix v6))), .long v4] hp (some (.long res)) hp
      refine Fx.run [(.i2l, 1, 0, 0, .null), (.lmul, 1, 0, 0, .null), (.ladd, 1, 0, 0, .null), (.lstore 4, 2, 4, 0, .null), (.iinc 6 1, 3, 6, 0, .int 1)] 77 (by decide +kernel) ?_
      show Fx q_TJ_weight 3 sh 77 [some (.ref c), none, some (.int v2), some (.ref v3), some (.long (v4 + ((Int32.toInt64 (hp.1 (v3 + 5) (ix v6))) * (Int32.toInt64 r10)))), none, some (.int (v6 + 1))] [] hp (some (.long res)) hp
      refine Fx.goto (-44) 33 (by decide +kernel) ?_
      obtain rfl := Option.some.inj hf
      have hk : Fx q_TJ_weight 3 sh 33 [some (.ref c), none, some (.int v2), some (.ref v3), some (.long (v4 + ((Int32.toInt64 (hp.1 (v3 + 5) (ix v6))) * (Int32.toInt64 r10)))), none, some (.int (v6 + 1))] [] hp (some (.long res)) hp := hk
      exact Fx.le hk (And.intro rfl (And.intro rfl (And.intro rfl (And.intro rfl (And.intro rfl trivial)))))
set_option maxHeartbeats 4000000 in
set_option maxRecDepth 20000 in
theorem t_TJ_weight (sh : Shp) (c : Nat) (hS : S_TJ sh c) (hp : HP) (v1 : Int32) (v2 : Int32) (res : Int64) (hf : f_TJ_weight c hp v1 v2 = some res) : Ex 3 q_TJ_weight sh [.ref c, .int v1, .int v2] hp (some (.long res)) hp := by
  refine Ex.of [some (.ref c), some (.int v1), some (.int v2), none, none, none, none] rfl (Nat.le_of_ble_eq_true rfl) (by decide +kernel) rfl ?_
  obtain ⟨t, hk⟩ : ∃ t, t = res := ⟨res, rfl⟩
  rw [← hk] at hf
  unfold f_TJ_weight at hf
  refine Fx.run [(.iload_n 1, 1, 1, 0, .null)] 1 (by decide +kernel) ?_
  show Fx q_TJ_weight 3 sh 1 [some (.ref c), some (.int v1), some (.int v2), none, none, none, none] [.int v1] hp (some (.long res)) hp
  replace hf := bnd hf
  obtain ⟨r1, hr1, hf⟩ := hf
  refine Fx.callS (rr := (some (.int r1))) (hp1 := hp) [.int v1] [] lk_8_91 (by decide +kernel) (t_TJ_isSide sh hp v1 r1 hr1) ⟨Nat.le_of_ble_eq_true rfl, Nat.le_of_ble_eq_true rfl⟩ rfl (Nat.le_of_ble_eq_true rfl) ?_
  show Fx q_TJ_weight 3 sh 4 [some (.ref c), some (.int v1), some (.int v2), none, none, none, none] [.int r1] hp (some (.long res)) hp
  refine Fx.if_eq (10) 14 7 (by decide +kernel) (fun b2 => ?_) (fun b2 => ?_)
  · replace hf := ifp b2 hf
    refine Fx.run [(.ldc2_w 238, 3, 0, 0, .long (-1))] 17 (by decide +kernel) ?_
    show Fx q_TJ_weight 3 sh 17 [some (.ref c), some (.int v1), some (.int v2), none, none, none, none] [.long (-1)] hp (some (.long res)) hp
    obtain rfl := Option.some.inj hf
    have hk : (-1) = res := hk
    subst hk
    exact Fx.lret (by decide +kernel) rfl
  · replace hf := ifn b2 hf
    refine Fx.run [(.iload_n 2, 1, 2, 0, .null)] 8 (by decide +kernel) ?_
    show Fx q_TJ_weight 3 sh 8 [some (.ref c), some (.int v1), some (.int v2), none, none, none, none] [.int v2] hp (some (.long res)) hp
    replace hf := bnd hf
    obtain ⟨r3, hr3, hf⟩ := hf
    refine Fx.callS (rr := (some (.int r3))) (hp1 := hp) [.int v2] [] lk_8_249 (by decide +kernel) (t_TJ_isKey sh hp v2 r3 hr3) ⟨Nat.le_of_ble_eq_true rfl, Nat.le_of_ble_eq_true rfl⟩ rfl (Nat.le_of_ble_eq_true rfl) ?_
    show Fx q_TJ_weight 3 sh 11 [some (.ref c), some (.int v1), some (.int v2), none, none, none, none] [.int r3] hp (some (.long res)) hp
    refine Fx.if_ne (7) 18 14 (by decide +kernel) (fun b4 => ?_) (fun b4 => ?_)
    · replace hf := ifn b4 hf
      refine Fx.run [(.aload_n 0, 1, 0, 0, .null), (.getfield 12, 3, 8, 0, .ref 1), (.iload_n 1, 1, 1, 0, .null)] 23 (by decide +kernel) ?_
      show isK sh c 8 ∧ Fx q_TJ_weight 3 sh 23 [some (.ref c), some (.int v1), some (.int v2), none, none, none, none] [.int v1, .ref (c + 1)] hp (some (.long res)) hp
      refine ⟨hS.1, ?_⟩
      replace hf := bnd hf
      obtain ⟨r5, hr5, hf⟩ := hf
      refine Fx.callV (rr := (some (.ref r5))) (hp1 := hp) [.int v1] [] lk_8_95 (by decide +kernel) (t_St_rowsOf sh (c + 1) (hS.2.1) hp v1 r5 hr5) ⟨Nat.le_of_ble_eq_true rfl, Nat.le_of_ble_eq_true rfl⟩ (hS.2.1).1 (by decide) rfl (Nat.le_of_ble_eq_true rfl) ?_
      show Fx q_TJ_weight 3 sh 26 [some (.ref c), some (.int v1), some (.int v2), none, none, none, none] [.ref r5] hp (some (.long res)) hp
      refine Fx.run [(.astore_n 3, 1, 3, 0, .null), (.lconst 0, 1, 0, 0, .long 0), (.lstore 4, 2, 4, 0, .null), (.iconst 0, 1, 0, 0, .int 0), (.istore 6, 2, 6, 0, .null)] 33 (by decide +kernel) ?_
      show Fx q_TJ_weight 3 sh 33 [some (.ref c), some (.int v1), some (.int v2), some (.ref r5), some (.long 0), none, some (.int 0)] [] hp (some (.long res)) hp
      have hl := t_TJ_weight_l33 sh c hS hp v2 r5 ((rowsOf_S hS.2.1 hr5)) res (0, 0) _ hf hk
      have hl : Fx q_TJ_weight 3 sh 33 [some (.ref c), none, some (.int v2), some (.ref r5), some (.long 0), none, some (.int 0)] [] hp (some (.long res)) hp := hl
      exact Fx.le hl (And.intro rfl (And.intro rfl (And.intro rfl (And.intro rfl (And.intro rfl trivial)))))
    · replace hf := ifp b4 hf
      refine Fx.run [(.ldc2_w 238, 3, 0, 0, .long (-1))] 17 (by decide +kernel) ?_
      show Fx q_TJ_weight 3 sh 17 [some (.ref c), some (.int v1), some (.int v2), none, none, none, none] [.long (-1)] hp (some (.long res)) hp
      obtain rfl := Option.some.inj hf
      have hk : (-1) = res := hk
      subst hk
      exact Fx.lret (by decide +kernel) rfl
set_option maxHeartbeats 4000000 in
set_option maxRecDepth 20000 in
theorem t_Ro_isThere (sh : Shp) (c : Nat) (hS : S_Ro sh c) (hp : HP) (v1 : Int32) (v2 : Int32) (res : Int32) (hf : f_Ro_isThere c hp v1 v2 = some res) : Ex 3 q_Ro_isThere sh [.ref c, .int v1, .int v2] hp (some (.int res)) hp := by
  refine Ex.of [some (.ref c), some (.int v1), some (.int v2)] rfl (Nat.le_of_ble_eq_true rfl) (by decide +kernel) rfl ?_
  obtain ⟨t, hk⟩ : ∃ t, t = res := ⟨res, rfl⟩
  rw [← hk] at hf
  unfold f_Ro_isThere at hf
  refine Fx.run [(.aload_n 0, 1, 0, 0, .null), (.iload_n 1, 1, 1, 0, .null)] 2 (by decide +kernel) ?_
  show Fx q_Ro_isThere 3 sh 2 [some (.ref c), some (.int v1), some (.int v2)] [.int v1, .ref c] hp (some (.int res)) hp
  replace hf := bnd hf
  obtain ⟨r1, hr1, hf⟩ := hf
  refine Fx.callV (rr := (some (.int r1))) (hp1 := hp) [.int v1] [] lk_4_54 (by decide +kernel) (t_Ro_startPlace sh c (hS) hp v1 r1 hr1) ⟨Nat.le_of_ble_eq_true rfl, Nat.le_of_ble_eq_true rfl⟩ (hS).1 (by decide) rfl (Nat.le_of_ble_eq_true rfl) ?_
  show Fx q_Ro_isThere 3 sh 5 [some (.ref c), some (.int v1), some (.int v2)] [.int r1] hp (some (.int res)) hp
  refine Fx.run [(.iload_n 2, 1, 2, 0, .null)] 6 (by decide +kernel) ?_
  show Fx q_Ro_isThere 3 sh 6 [some (.ref c), some (.int v1), some (.int v2)] [.int v2, .int r1] hp (some (.int res)) hp
  refine Fx.icmp_gt (16) 22 9 (by decide +kernel) (fun b2 => ?_) (fun b2 => ?_)
  · replace hf := ifp b2 hf
    refine Fx.run [(.iconst 0, 1, 0, 0, .int 0)] 23 (by decide +kernel) ?_
    show Fx q_Ro_isThere 3 sh 23 [some (.ref c), some (.int v1), some (.int v2)] [.int 0] hp (some (.int res)) hp
    obtain rfl := Option.some.inj hf
    have hk : 0 = res := hk
    subst hk
    exact Fx.zret (by decide +kernel) rfl (Or.inl rfl)
  · replace hf := ifn b2 hf
    refine Fx.run [(.iload_n 2, 1, 2, 0, .null), (.aload_n 0, 1, 0, 0, .null), (.iload_n 1, 1, 1, 0, .null)] 12 (by decide +kernel) ?_
    show Fx q_Ro_isThere 3 sh 12 [some (.ref c), some (.int v1), some (.int v2)] [.int v1, .ref c, .int v2] hp (some (.int res)) hp
    replace hf := bnd hf
    obtain ⟨r3, hr3, hf⟩ := hf
    refine Fx.callV (rr := (some (.int r3))) (hp1 := hp) [.int v1] [.int v2] lk_4_57 (by decide +kernel) (t_Ro_endPlace sh c (hS) hp v1 r3 hr3) ⟨Nat.le_of_ble_eq_true rfl, Nat.le_of_ble_eq_true rfl⟩ (hS).1 (by decide) rfl (Nat.le_of_ble_eq_true rfl) ?_
    show Fx q_Ro_isThere 3 sh 15 [some (.ref c), some (.int v1), some (.int v2)] [.int r3, .int v2] hp (some (.int res)) hp
    refine Fx.icmp_ge (7) 22 18 (by decide +kernel) (fun b4 => ?_) (fun b4 => ?_)
    · replace hf := ifp b4 hf
      refine Fx.run [(.iconst 0, 1, 0, 0, .int 0)] 23 (by decide +kernel) ?_
      show Fx q_Ro_isThere 3 sh 23 [some (.ref c), some (.int v1), some (.int v2)] [.int 0] hp (some (.int res)) hp
      obtain rfl := Option.some.inj hf
      have hk : 0 = res := hk
      subst hk
      exact Fx.zret (by decide +kernel) rfl (Or.inl rfl)
    · replace hf := ifn b4 hf
      refine Fx.run [(.iconst 1, 1, 0, 0, .int 1)] 19 (by decide +kernel) ?_
      show Fx q_Ro_isThere 3 sh 19 [some (.ref c), some (.int v1), some (.int v2)] [.int 1] hp (some (.int res)) hp
      refine Fx.goto (4) 23 (by decide +kernel) ?_
      obtain rfl := Option.some.inj hf
      have hk : 1 = res := hk
      subst hk
      exact Fx.zret (by decide +kernel) rfl (Or.inr rfl)
abbrev P_Ro_countThere_5 (sh : Shp) (c : Nat) (hp : HP) (v1 : Int32) (v2 : Int32) (res : Int32) : (Int32 × Int32) → Prop := fun s => Fx q_Ro_countThere 4 sh 5 [some (.ref c), some (.int v1), some (.int v2), some (.int s.1), some (.int s.2)] [] hp (some (.int res)) hp
set_option maxHeartbeats 4000000 in
set_option maxRecDepth 20000 in
theorem t_Ro_countThere_j30 (sh : Shp) (c : Nat) (hS : S_Ro sh c) (hp : HP) (v1 : Int32) (v2 : Int32) (v3 : Int32) (v4 : Int32)  (res : Int32) (t : ((Int32 × Int32) ⊕ Int32)) (hf : f_Ro_countThere_j30 c hp v1 v2 v3 v4  = some t) (hk : (Kel (P_Ro_countThere_5 sh c hp v1 v2 res) (fun v => v = res)) t) : Fx q_Ro_countThere 4 sh 30 [some (.ref c), some (.int v1), some (.int v2), some (.int v3), some (.int v4)] [] hp (some (.int res)) hp := by
  unfold f_Ro_countThere_j30 at hf
  refine Fx.run [(.aload_n 0, 1, 0, 0, .null), (.iload 4, 2, 4, 0, .null), (.iload_n 2, 1, 2, 0, .null)] 34 (by decide +kernel) ?_
  show Fx q_Ro_countThere 4 sh 34 [some (.ref c), some (.int v1), some (.int v2), some (.int v3), some (.int v4)] [.int v2, .int v4, .ref c] hp (some (.int res)) hp
  replace hf := bnd hf
  obtain ⟨r3, hr3, hf⟩ := hf
  refine Fx.callV (rr := (some (.int r3))) (hp1 := hp) [.int v4, .int v2] [] lk_4_60 (by decide +kernel) (t_Ro_isThere sh c (hS) hp v4 v2 r3 hr3) ⟨Nat.le_of_ble_eq_true rfl, Nat.le_of_ble_eq_true rfl⟩ (hS).1 (by decide) rfl (Nat.le_of_ble_eq_true rfl) ?_
  show Fx q_Ro_countThere 4 sh 37 [some (.ref c), some (.int v1), some (.int v2), some (.int v3), some (.int v4)] [.int r3] hp (some (.int res)) hp
  refine Fx.if_eq (6) 43 40 (by decide +kernel) (fun b4 => ?_) (fun b4 => ?_)
  · replace hf := ifp b4 hf
    refine Fx.run [(.iinc 4 1, 3, 4, 0, .int 1)] 46 (by decide +kernel) ?_
    show Fx q_Ro_countThere 4 sh 46 [some (.ref c), some (.int v1), some (.int v2), some (.int v3), some (.int (v4 + 1))] [] hp (some (.int res)) hp
    refine Fx.goto (-41) 5 (by decide +kernel) ?_
    obtain rfl := Option.some.inj hf
    have hk : Fx q_Ro_countThere 4 sh 5 [some (.ref c), some (.int v1), some (.int v2), some (.int v3), some (.int (v4 + 1))] [] hp (some (.int res)) hp := hk
    exact Fx.le hk (And.intro rfl (And.intro rfl (And.intro rfl (And.intro rfl (And.intro rfl trivial)))))
  · replace hf := ifn b4 hf
    refine Fx.run [(.iinc 3 1, 3, 3, 0, .int 1), (.iinc 4 1, 3, 4, 0, .int 1)] 46 (by decide +kernel) ?_
    show Fx q_Ro_countThere 4 sh 46 [some (.ref c), some (.int v1), some (.int v2), some (.int (v3 + 1)), some (.int (v4 + 1))] [] hp (some (.int res)) hp
    refine Fx.goto (-41) 5 (by decide +kernel) ?_
    obtain rfl := Option.some.inj hf
    have hk : Fx q_Ro_countThere 4 sh 5 [some (.ref c), some (.int v1), some (.int v2), some (.int (v3 + 1)), some (.int (v4 + 1))] [] hp (some (.int res)) hp := hk
    exact Fx.le hk (And.intro rfl (And.intro rfl (And.intro rfl (And.intro rfl (And.intro rfl trivial)))))
set_option maxHeartbeats 4000000 in
set_option maxRecDepth 20000 in
theorem t_Ro_countThere_l5 (sh : Shp) (c : Nat) (hS : S_Ro sh c) (hp : HP) (v1 : Int32) (v2 : Int32) (res : Int32) : ∀ (s : (Int32 × Int32)) (t : Int32), f_Ro_countThere_l5 c hp v1 v2 s = some t → (fun v => v = res) t → P_Ro_countThere_5 sh c hp v1 v2 res s := by
  refine loop_ind (P_Ro_countThere_5 sh c hp v1 v2 res) (fun v => v = res) ?_
  intro s t hf hk
  obtain ⟨v3, v4⟩ := s
  replace hf : f_Ro_countThere_b5 c hp v1 v2 v3 v4 = some t := hf
  show Fx q_Ro_countThere 4 sh 5 [some (.ref c), some (.int v1), some (.int v2), some (.int v3), some (.int v4)] [] hp (some (.int res)) hp
  unfold f_Ro_countThere_b5 at hf
  refine Fx.run [(.iload 4, 2, 4, 0, .null), (.aload_n 0, 1, 0, 0, .null), (.getfield 27, 3, 4, 5, .null)] 11 (by decide +kernel) ?_
  show isK sh c 4 ∧ Fx q_Ro_countThere 4 sh 11 [some (.ref c), some (.int v1), some (.int v2), some (.int v3), some (.int v4)] [.int (hp.1 c 5), .int v4] hp (some (.int res)) hp
  refine ⟨hS.1, ?_⟩
  refine Fx.icmp_ge (38) 49 14 (by decide +kernel) (fun b1 => ?_) (fun b1 => ?_)
  · replace hf := ifp b1 hf
    replace hf := mpd hf
    obtain ⟨t, hf, rfl⟩ := hf
    refine Fx.run [(.iload_n 3, 1, 3, 0, .null)] 50 (by decide +kernel) ?_
    show Fx q_Ro_countThere 4 sh 50 [some (.ref c), some (.int v1), some (.int v2), some (.int v3), some (.int v4)] [.int v3] hp (some (.int res)) hp
    obtain rfl := Option.some.inj hf
    have hk : v3 = res := hk
    subst hk
    exact Fx.iret (by decide +kernel) rfl
  · replace hf := ifn b1 hf
    refine Fx.run [(.iload_n 1, 1, 1, 0, .null), (.iconst (-1), 1, 0, 0, .int (-1))] 16 (by decide +kernel) ?_
    show Fx q_Ro_countThere 4 sh 16 [some (.ref c), some (.int v1), some (.int v2), some (.int v3), some (.int v4)] [.int (-1), .int v1] hp (some (.int res)) hp
    refine Fx.icmp_eq (14) 30 19 (by decide +kernel) (fun b2 => ?_) (fun b2 => ?_)
    · replace hf := ifp b2 hf
      have hl := t_Ro_countThere_j30 sh c hS hp v1 v2 v3 v4  res _ hf hk
      exact Fx.le hl (And.intro rfl (And.intro rfl (And.intro rfl (And.intro rfl (And.intro rfl trivial)))))
    · replace hf := ifn b2 hf
      replace hf := gd hf
      obtain ⟨g5, hf⟩ := hf
      refine Fx.run [(.aload_n 0, 1, 0, 0, .null), (.getfield 15, 3, 4, 1, .ref 2), (.iload 4, 2, 4, 0, .null), (.iaload, 1, 40, 0, .null), (.iload_n 1, 1, 1, 0, .null)] 27 (by decide +kernel) ?_
      show isK sh c 4 ∧ (isA sh (c + 2) 10 40 ∧ inb v4 40) ∧ Fx q_Ro_countThere 4 sh 27 [some (.ref c), some (.int v1), some (.int v2), some (.int v3), some (.int v4)] [.int v1, .int (hp.1 (c + 2) (ix v4))] hp (some (.int res)) hp
      refine ⟨hS.1, ⟨hS.2.2.1, g5⟩, ?_⟩
      refine Fx.icmp_ne (16) 43 30 (by decide +kernel) (fun b6 => ?_) (fun b6 => ?_)
      · replace hf := ifn b6 hf
        refine Fx.run [(.iinc 4 1, 3, 4, 0, .int 1)] 46 (by decide +kernel) ?_
        show Fx q_Ro_countThere 4 sh 46 [some (.ref c), some (.int v1), some (.int v2), some (.int v3), some (.int (v4 + 1))] [] hp (some (.int res)) hp
        refine Fx.goto (-41) 5 (by decide +kernel) ?_
        obtain rfl := Option.some.inj hf
        have hk : Fx q_Ro_countThere 4 sh 5 [some (.ref c), some (.int v1), some (.int v2), some (.int v3), some (.int (v4 + 1))] [] hp (some (.int res)) hp := hk
        exact Fx.le hk (And.intro rfl (And.intro rfl (And.intro rfl (And.intro rfl (And.intro rfl trivial)))))
      · replace hf := ifp b6 hf
        have hl := t_Ro_countThere_j30 sh c hS hp v1 v2 v3 v4  res _ hf hk
        exact Fx.le hl (And.intro rfl (And.intro rfl (And.intro rfl (And.intro rfl (And.intro rfl trivial)))))
set_option maxHeartbeats 4000000 in
set_option maxRecDepth 20000 in
theorem t_Ro_countThere (sh : Shp) (c : Nat) (hS : S_Ro sh c) (hp : HP) (v1 : Int32) (v2 : Int32) (res : Int32) (hf : f_Ro_countThere c hp v1 v2 = some res) : Ex 4 q_Ro_countThere sh [.ref c, .int v1, .int v2] hp (some (.int res)) hp := by
  refine Ex.of [some (.ref c), some (.int v1), some (.int v2), none, none] rfl (Nat.le_of_ble_eq_true rfl) (by decide +kernel) rfl ?_
  obtain ⟨t, hk⟩ : ∃ t, t = res := ⟨res, rfl⟩
  rw [← hk] at hf
  unfold f_Ro_countThere at hf
  refine Fx.run [(.iconst 0, 1, 0, 0, .int 0), (.istore_n 3, 1, 3, 0, .null), (.iconst 0, 1, 0, 0, .int 0), (.istore 4, 2, 4, 0, .null)] 5 (by decide +kernel) ?_
  show Fx q_Ro_countThere 4 sh 5 [some (.ref c), some (.int v1), some (.int v2), some (.int 0), some (.int 0)] [] hp (some (.int res)) hp
  have hl := t_Ro_countThere_l5 sh c hS hp v1 v2 res (0, 0) _ hf hk
  have hl : Fx q_Ro_countThere 4 sh 5 [some (.ref c), some (.int v1), some (.int v2), some (.int 0), some (.int 0)] [] hp (some (.int res)) hp := hl
  exact Fx.le hl (And.intro rfl (And.intro rfl (And.intro rfl (And.intro rfl (And.intro rfl trivial)))))
set_option maxHeartbeats 4000000 in
set_option maxRecDepth 20000 in
theorem t_TJ_live_j24 (sh : Shp) (c : Nat) (hS : S_TJ sh c) (hp : HP) (v1 : Int32) (v2 : Int32) (v3 : Int32) (s0 : Int32) (res : Int32) (t : Int32) (hf : f_TJ_live_j24 c hp v1 v2 v3 s0 = some t) (hk : (fun v => v = res) t) : Fx q_TJ_live 5 sh 24 [some (.ref c), some (.int v1), some (.int v2), some (.int v3), none] [.int s0] hp (some (.int res)) hp := by
  unfold f_TJ_live_j24 at hf
  refine Fx.run [(.istore 4, 2, 4, 0, .null), (.iload 4, 2, 4, 0, .null)] 28 (by decide +kernel) ?_
  show Fx q_TJ_live 5 sh 28 [some (.ref c), some (.int v1), some (.int v2), some (.int v3), some (.int s0)] [.int s0] hp (some (.int res)) hp
  refine Fx.if_eq (17) 45 31 (by decide +kernel) (fun b3 => ?_) (fun b3 => ?_)
  · replace hf := ifp b3 hf
    refine Fx.run [(.iconst (-1), 1, 0, 0, .int (-1))] 46 (by decide +kernel) ?_
    show Fx q_TJ_live 5 sh 46 [some (.ref c), some (.int v1), some (.int v2), some (.int v3), some (.int s0)] [.int (-1)] hp (some (.int res)) hp
    obtain rfl := Option.some.inj hf
    have hk : (-1) = res := hk
    subst hk
    exact Fx.iret (by decide +kernel) rfl
  · replace hf := ifn b3 hf
    refine Fx.run [(.iload_n 3, 1, 3, 0, .null), (.ldc_w 267, 3, 0, 0, .int (-1000000))] 35 (by decide +kernel) ?_
    show Fx q_TJ_live 5 sh 35 [some (.ref c), some (.int v1), some (.int v2), some (.int v3), some (.int s0)] [.int (-1000000), .int v3] hp (some (.int res)) hp
    refine Fx.icmp_lt (10) 45 38 (by decide +kernel) (fun b4 => ?_) (fun b4 => ?_)
    · replace hf := ifp b4 hf
      refine Fx.run [(.iconst (-1), 1, 0, 0, .int (-1))] 46 (by decide +kernel) ?_
      show Fx q_TJ_live 5 sh 46 [some (.ref c), some (.int v1), some (.int v2), some (.int v3), some (.int s0)] [.int (-1)] hp (some (.int res)) hp
      obtain rfl := Option.some.inj hf
      have hk : (-1) = res := hk
      subst hk
      exact Fx.iret (by decide +kernel) rfl
    · replace hf := ifn b4 hf
      refine Fx.run [(.iload_n 3, 1, 3, 0, .null), (.ldc_w 268, 3, 0, 0, .int 1000000)] 42 (by decide +kernel) ?_
      show Fx q_TJ_live 5 sh 42 [some (.ref c), some (.int v1), some (.int v2), some (.int v3), some (.int s0)] [.int 1000000, .int v3] hp (some (.int res)) hp
      refine Fx.icmp_le (5) 47 45 (by decide +kernel) (fun b5 => ?_) (fun b5 => ?_)
      · replace hf := ifp b5 hf
        refine Fx.run [(.aload_n 0, 1, 0, 0, .null), (.getfield 12, 3, 8, 0, .ref 1), (.iload_n 1, 1, 1, 0, .null)] 52 (by decide +kernel) ?_
        show isK sh c 8 ∧ Fx q_TJ_live 5 sh 52 [some (.ref c), some (.int v1), some (.int v2), some (.int v3), some (.int s0)] [.int v1, .ref (c + 1)] hp (some (.int res)) hp
        refine ⟨hS.1, ?_⟩
        replace hf := bnd hf
        obtain ⟨r6, hr6, hf⟩ := hf
        refine Fx.callV (rr := (some (.ref r6))) (hp1 := hp) [.int v1] [] lk_8_95 (by decide +kernel) (t_St_rowsOf sh (c + 1) (hS.2.1) hp v1 r6 hr6) ⟨Nat.le_of_ble_eq_true rfl, Nat.le_of_ble_eq_true rfl⟩ (hS.2.1).1 (by decide) rfl (Nat.le_of_ble_eq_true rfl) ?_
        show Fx q_TJ_live 5 sh 55 [some (.ref c), some (.int v1), some (.int v2), some (.int v3), some (.int s0)] [.ref r6] hp (some (.int res)) hp
        refine Fx.run [(.iload_n 2, 1, 2, 0, .null), (.iconst 2, 1, 0, 0, .int 2), (.iload_n 3, 1, 3, 0, .null), (.imul, 1, 0, 0, .null)] 59 (by decide +kernel) ?_
        show Fx q_TJ_live 5 sh 59 [some (.ref c), some (.int v1), some (.int v2), some (.int v3), some (.int s0)] [.int (2 * v3), .int v2, .ref r6] hp (some (.int res)) hp
        replace hf := bnd hf
        obtain ⟨r7, hr7, hf⟩ := hf
        refine Fx.callV (rr := (some (.int r7))) (hp1 := hp) [.int v2, .int (2 * v3)] [] lk_8_269 (by decide +kernel) (t_Ro_countThere sh r6 ((rowsOf_S hS.2.1 hr6)) hp v2 (2 * v3) r7 hr7) ⟨Nat.le_of_ble_eq_true rfl, Nat.le_of_ble_eq_true rfl⟩ ((rowsOf_S hS.2.1 hr6)).1 (by decide) rfl (Nat.le_of_ble_eq_true rfl) ?_
        show Fx q_TJ_live 5 sh 62 [some (.ref c), some (.int v1), some (.int v2), some (.int v3), some (.int s0)] [.int r7] hp (some (.int res)) hp
        obtain rfl := Option.some.inj hf
        have hk : r7 = res := hk
        subst hk
        exact Fx.iret (by decide +kernel) rfl
      · replace hf := ifn b5 hf
        refine Fx.run [(.iconst (-1), 1, 0, 0, .int (-1))] 46 (by decide +kernel) ?_
        show Fx q_TJ_live 5 sh 46 [some (.ref c), some (.int v1), some (.int v2), some (.int v3), some (.int s0)] [.int (-1)] hp (some (.int res)) hp
        obtain rfl := Option.some.inj hf
        have hk : (-1) = res := hk
        subst hk
        exact Fx.iret (by decide +kernel) rfl
set_option maxHeartbeats 4000000 in
set_option maxRecDepth 20000 in
theorem t_TJ_live (sh : Shp) (c : Nat) (hS : S_TJ sh c) (hp : HP) (v1 : Int32) (v2 : Int32) (v3 : Int32) (res : Int32) (hf : f_TJ_live c hp v1 v2 v3 = some res) : Ex 5 q_TJ_live sh [.ref c, .int v1, .int v2, .int v3] hp (some (.int res)) hp := by
  refine Ex.of [some (.ref c), some (.int v1), some (.int v2), some (.int v3), none] rfl (Nat.le_of_ble_eq_true rfl) (by decide +kernel) rfl ?_
  obtain ⟨t, hk⟩ : ∃ t, t = res := ⟨res, rfl⟩
  rw [← hk] at hf
  unfold f_TJ_live at hf
  refine Fx.run [(.iload_n 1, 1, 1, 0, .null)] 1 (by decide +kernel) ?_
  show Fx q_TJ_live 5 sh 1 [some (.ref c), some (.int v1), some (.int v2), some (.int v3), none] [.int v1] hp (some (.int res)) hp
  replace hf := bnd hf
  obtain ⟨r1, hr1, hf⟩ := hf
  refine Fx.callS (rr := (some (.int r1))) (hp1 := hp) [.int v1] [] lk_8_91 (by decide +kernel) (t_TJ_isSide sh hp v1 r1 hr1) ⟨Nat.le_of_ble_eq_true rfl, Nat.le_of_ble_eq_true rfl⟩ rfl (Nat.le_of_ble_eq_true rfl) ?_
  show Fx q_TJ_live 5 sh 4 [some (.ref c), some (.int v1), some (.int v2), some (.int v3), none] [.int r1] hp (some (.int res)) hp
  refine Fx.if_eq (19) 23 7 (by decide +kernel) (fun b2 => ?_) (fun b2 => ?_)
  · replace hf := ifp b2 hf
    refine Fx.run [(.iconst 0, 1, 0, 0, .int 0)] 24 (by decide +kernel) ?_
    show Fx q_TJ_live 5 sh 24 [some (.ref c), some (.int v1), some (.int v2), some (.int v3), none] [.int 0] hp (some (.int res)) hp
    have hl := t_TJ_live_j24 sh c hS hp v1 v2 v3 0 res _ hf hk
    exact Fx.le hl (And.intro rfl (And.intro rfl (And.intro rfl (And.intro rfl trivial))))
  · replace hf := ifn b2 hf
    refine Fx.run [(.iload_n 2, 1, 2, 0, .null), (.iconst (-1), 1, 0, 0, .int (-1))] 9 (by decide +kernel) ?_
    show Fx q_TJ_live 5 sh 9 [some (.ref c), some (.int v1), some (.int v2), some (.int v3), none] [.int (-1), .int v2] hp (some (.int res)) hp
    refine Fx.icmp_eq (10) 19 12 (by decide +kernel) (fun b8 => ?_) (fun b8 => ?_)
    · replace hf := ifp b8 hf
      refine Fx.run [(.iconst 1, 1, 0, 0, .int 1)] 20 (by decide +kernel) ?_
      show Fx q_TJ_live 5 sh 20 [some (.ref c), some (.int v1), some (.int v2), some (.int v3), none] [.int 1] hp (some (.int res)) hp
      refine Fx.goto (4) 24 (by decide +kernel) ?_
      have hl := t_TJ_live_j24 sh c hS hp v1 v2 v3 1 res _ hf hk
      exact Fx.le hl (And.intro rfl (And.intro rfl (And.intro rfl (And.intro rfl trivial))))
    · replace hf := ifn b8 hf
      refine Fx.run [(.iload_n 2, 1, 2, 0, .null)] 13 (by decide +kernel) ?_
      show Fx q_TJ_live 5 sh 13 [some (.ref c), some (.int v1), some (.int v2), some (.int v3), none] [.int v2] hp (some (.int res)) hp
      replace hf := bnd hf
      obtain ⟨r9, hr9, hf⟩ := hf
      refine Fx.callS (rr := (some (.int r9))) (hp1 := hp) [.int v2] [] lk_8_249 (by decide +kernel) (t_TJ_isKey sh hp v2 r9 hr9) ⟨Nat.le_of_ble_eq_true rfl, Nat.le_of_ble_eq_true rfl⟩ rfl (Nat.le_of_ble_eq_true rfl) ?_
      show Fx q_TJ_live 5 sh 16 [some (.ref c), some (.int v1), some (.int v2), some (.int v3), none] [.int r9] hp (some (.int res)) hp
      refine Fx.if_eq (7) 23 19 (by decide +kernel) (fun b10 => ?_) (fun b10 => ?_)
      · replace hf := ifp b10 hf
        refine Fx.run [(.iconst 0, 1, 0, 0, .int 0)] 24 (by decide +kernel) ?_
        show Fx q_TJ_live 5 sh 24 [some (.ref c), some (.int v1), some (.int v2), some (.int v3), none] [.int 0] hp (some (.int res)) hp
        have hl := t_TJ_live_j24 sh c hS hp v1 v2 v3 0 res _ hf hk
        exact Fx.le hl (And.intro rfl (And.intro rfl (And.intro rfl (And.intro rfl trivial))))
      · replace hf := ifn b10 hf
        refine Fx.run [(.iconst 1, 1, 0, 0, .int 1)] 20 (by decide +kernel) ?_
        show Fx q_TJ_live 5 sh 20 [some (.ref c), some (.int v1), some (.int v2), some (.int v3), none] [.int 1] hp (some (.int res)) hp
        refine Fx.goto (4) 24 (by decide +kernel) ?_
        have hl := t_TJ_live_j24 sh c hS hp v1 v2 v3 1 res _ hf hk
        exact Fx.le hl (And.intro rfl (And.intro rfl (And.intro rfl (And.intro rfl trivial))))
set_option maxHeartbeats 4000000 in
set_option maxRecDepth 20000 in
theorem t_TJ_countThere (sh : Shp) (c : Nat) (hS : S_TJ sh c) (hp : HP) (v1 : Int32) (v2 : Int32) (res : Int32) (hf : f_TJ_countThere c hp v1 v2 = some res) : Ex 5 q_TJ_countThere sh [.ref c, .int v1, .int v2] hp (some (.int res)) hp := by
  refine Ex.of [some (.ref c), some (.int v1), some (.int v2)] rfl (Nat.le_of_ble_eq_true rfl) (by decide +kernel) rfl ?_
  obtain ⟨t, hk⟩ : ∃ t, t = res := ⟨res, rfl⟩
  rw [← hk] at hf
  unfold f_TJ_countThere at hf
  refine Fx.run [(.aload_n 0, 1, 0, 0, .null), (.getfield 12, 3, 8, 0, .ref 1), (.getfield 243, 3, 5, 0, .ref 1), (.iload_n 1, 1, 1, 0, .null), (.iload_n 2, 1, 2, 0, .null)] 9 (by decide +kernel) ?_
  show isK sh c 8 ∧ isK sh (c + 1) 5 ∧ Fx q_TJ_countThere 5 sh 9 [some (.ref c), some (.int v1), some (.int v2)] [.int v2, .int v1, .ref ((c + 1) + 1)] hp (some (.int res)) hp
  refine ⟨hS.1, hS.2.1.1, ?_⟩
  replace hf := bnd hf
  obtain ⟨r1, hr1, hf⟩ := hf
  refine Fx.callV (rr := (some (.int r1))) (hp1 := hp) [.int v1, .int v2] [] lk_8_269 (by decide +kernel) (t_Ro_countThere sh ((c + 1) + 1) (hS.2.1.2.1) hp v1 v2 r1 hr1) ⟨Nat.le_of_ble_eq_true rfl, Nat.le_of_ble_eq_true rfl⟩ (hS.2.1.2.1).1 (by decide) rfl (Nat.le_of_ble_eq_true rfl) ?_
  show Fx q_TJ_countThere 5 sh 12 [some (.ref c), some (.int v1), some (.int v2)] [.int r1] hp (some (.int res)) hp
  refine Fx.run [(.aload_n 0, 1, 0, 0, .null), (.getfield 12, 3, 8, 0, .ref 1), (.getfield 246, 3, 5, 1, .ref 7), (.iload_n 1, 1, 1, 0, .null), (.iload_n 2, 1, 2, 0, .null)] 21 (by decide +kernel) ?_
  show isK sh c 8 ∧ isK sh (c + 1) 5 ∧ Fx q_TJ_countThere 5 sh 21 [some (.ref c), some (.int v1), some (.int v2)] [.int v2, .int v1, .ref ((c + 1) + 7), .int r1] hp (some (.int res)) hp
  refine ⟨hS.1, hS.2.1.1, ?_⟩
  replace hf := bnd hf
  obtain ⟨r2, hr2, hf⟩ := hf
  refine Fx.callV (rr := (some (.int r2))) (hp1 := hp) [.int v1, .int v2] [.int r1] lk_8_269 (by decide +kernel) (t_Ro_countThere sh ((c + 1) + 7) (hS.2.1.2.2.1) hp v1 v2 r2 hr2) ⟨Nat.le_of_ble_eq_true rfl, Nat.le_of_ble_eq_true rfl⟩ (hS.2.1.2.2.1).1 (by decide) rfl (Nat.le_of_ble_eq_true rfl) ?_
  show Fx q_TJ_countThere 5 sh 24 [some (.ref c), some (.int v1), some (.int v2)] [.int r2, .int r1] hp (some (.int res)) hp
  refine Fx.run [(.iadd, 1, 0, 0, .null)] 25 (by decide +kernel) ?_
  show Fx q_TJ_countThere 5 sh 25 [some (.ref c), some (.int v1), some (.int v2)] [.int (r1 + r2)] hp (some (.int res)) hp
  obtain rfl := Option.some.inj hf
  have hk : (r1 + r2) = res := hk
  subst hk
  exact Fx.iret (by decide +kernel) rfl
abbrev P_TJ_crowd_27 (sh : Shp) (c : Nat) (hp : HP) (v1 : Int32) (v2 : Int32) (res : Int32) : (Int32 × Int32 × Int32) → Prop := fun s => Fx q_TJ_crowd 6 sh 27 [some (.ref c), some (.int v1), some (.int v2), some (.int s.1), some (.int s.2.1), some (.int s.2.2), none, none, none] [] hp (some (.int res)) hp
abbrev P_TJ_crowd_47 (sh : Shp) (c : Nat) (hp : HP) (v1 : Int32) (v2 : Int32) (v5 : Int32) (v6 : Nat) (res : Int32) : (Int32 × Int32 × Int32) → Prop := fun s => Fx q_TJ_crowd 6 sh 47 [some (.ref c), some (.int v1), some (.int v2), some (.int s.1), some (.int s.2.1), some (.int v5), some (.ref v6), some (.int s.2.2), none] [] hp (some (.int res)) hp
set_option maxHeartbeats 4000000 in
set_option maxRecDepth 20000 in
theorem t_TJ_crowd_l47 (sh : Shp) (c : Nat) (hS : S_TJ sh c) (hp : HP) (v1 : Int32) (v2 : Int32) (v5 : Int32) (v6 : Nat) (hv6 : S_Ro sh v6) (res : Int32) : ∀ (s : (Int32 × Int32 × Int32)) (t : ((Int32 × Int32 × Int32) ⊕ Int32)), f_TJ_crowd_l47 c hp v1 v2 v5 v6 s = some t → (Kel (P_TJ_crowd_27 sh c hp v1 v2 res) (fun v => v = res)) t → P_TJ_crowd_47 sh c hp v1 v2 v5 v6 res s := by
  refine loop_ind (P_TJ_crowd_47 sh c hp v1 v2 v5 v6 res) (Kel (P_TJ_crowd_27 sh c hp v1 v2 res) (fun v => v = res)) ?_
  intro s t hf hk
  obtain ⟨v3, v4, v7⟩ := s
  replace hf : f_TJ_crowd_b47 c hp v1 v2 v5 v6 v3 v4 v7 = some t := hf
  show Fx q_TJ_crowd 6 sh 47 [some (.ref c), some (.int v1), some (.int v2), some (.int v3), some (.int v4), some (.int v5), some (.ref v6), some (.int v7), none] [] hp (some (.int res)) hp
  unfold f_TJ_crowd_b47 at hf
  refine Fx.run [(.iload 7, 2, 7, 0, .null), (.aload 6, 2, 6, 0, .null), (.getfield 88, 3, 4, 5, .null)] 54 (by decide +kernel) ?_
  show isK sh v6 4 ∧ Fx q_TJ_crowd 6 sh 54 [some (.ref c), some (.int v1), some (.int v2), some (.int v3), some (.int v4), some (.int v5), some (.ref v6), some (.int v7), none] [.int (hp.1 v6 5), .int v7] hp (some (.int res)) hp
  refine ⟨hv6.1, ?_⟩
  refine Fx.icmp_ge (73) 127 57 (by decide +kernel) (fun b8 => ?_) (fun b8 => ?_)
  · replace hf := ifp b8 hf
    replace hf := mpd hf
    obtain ⟨t, hf, rfl⟩ := hf
    refine Fx.run [(.iinc 5 1, 3, 5, 0, .int 1)] 130 (by decide +kernel) ?_
    show Fx q_TJ_crowd 6 sh 130 [some (.ref c), some (.int v1), some (.int v2), some (.int v3), some (.int v4), some (.int (v5 + 1)), some (.ref v6), some (.int v7), none] [] hp (some (.int res)) hp
    refine Fx.goto (-103) 27 (by decide +kernel) ?_
    obtain rfl := Option.some.inj hf
    have hk : Fx q_TJ_crowd 6 sh 27 [some (.ref c), some (.int v1), some (.int v2), some (.int v3), some (.int v4), some (.int (v5 + 1)), none, none, none] [] hp (some (.int res)) hp := hk
    exact Fx.le hk (And.intro rfl (And.intro rfl (And.intro rfl (And.intro rfl (And.intro rfl (And.intro rfl trivial))))))
  · replace hf := ifn b8 hf
    replace hf := gd hf
    obtain ⟨g9, hf⟩ := hf
    refine Fx.run [(.aload 6, 2, 6, 0, .null), (.getfield 102, 3, 4, 1, .ref 2), (.iload 7, 2, 7, 0, .null), (.iaload, 1, 40, 0, .null), (.iload_n 1, 1, 1, 0, .null)] 66 (by decide +kernel) ?_
    show isK sh v6 4 ∧ (isA sh (v6 + 2) 10 40 ∧ inb v7 40) ∧ Fx q_TJ_crowd 6 sh 66 [some (.ref c), some (.int v1), some (.int v2), some (.int v3), some (.int v4), some (.int v5), some (.ref v6), some (.int v7), none] [.int v1, .int (hp.1 (v6 + 2) (ix v7))] hp (some (.int res)) hp
    refine ⟨hv6.1, ⟨hv6.2.2.1, g9⟩, ?_⟩
    refine Fx.icmp_ne (55) 121 69 (by decide +kernel) (fun b10 => ?_) (fun b10 => ?_)
    · replace hf := ifn b10 hf
      refine Fx.run [(.iinc 7 1, 3, 7, 0, .int 1)] 124 (by decide +kernel) ?_
      show Fx q_TJ_crowd 6 sh 124 [some (.ref c), some (.int v1), some (.int v2), some (.int v3), some (.int v4), some (.int v5), some (.ref v6), some (.int (v7 + 1)), none] [] hp (some (.int res)) hp
      refine Fx.goto (-77) 47 (by decide +kernel) ?_
      obtain rfl := Option.some.inj hf
      have hk : Fx q_TJ_crowd 6 sh 47 [some (.ref c), some (.int v1), some (.int v2), some (.int v3), some (.int v4), some (.int v5), some (.ref v6), some (.int (v7 + 1)), none] [] hp (some (.int res)) hp := hk
      exact Fx.le hk (And.intro rfl (And.intro rfl (And.intro rfl (And.intro rfl (And.intro rfl (And.intro rfl (And.intro rfl (And.intro rfl trivial))))))))
    · replace hf := ifp b10 hf
      refine Fx.run [(.aload_n 0, 1, 0, 0, .null), (.iload_n 1, 1, 1, 0, .null), (.aload 6, 2, 6, 0, .null), (.iload 7, 2, 7, 0, .null)] 75 (by decide +kernel) ?_
      show Fx q_TJ_crowd 6 sh 75 [some (.ref c), some (.int v1), some (.int v2), some (.int v3), some (.int v4), some (.int v5), some (.ref v6), some (.int v7), none] [.int v7, .ref v6, .int v1, .ref c] hp (some (.int res)) hp
      replace hf := bnd hf
      obtain ⟨r11, hr11, hf⟩ := hf
      refine Fx.callV (rr := (some (.int r11))) (hp1 := hp) [.int v7] [.int v1, .ref c] lk_8_231 (by decide +kernel) (t_Ro_startPlace sh v6 (hv6) hp v7 r11 hr11) ⟨Nat.le_of_ble_eq_true rfl, Nat.le_of_ble_eq_true rfl⟩ (hv6).1 (by decide) rfl (Nat.le_of_ble_eq_true rfl) ?_
      show Fx q_TJ_crowd 6 sh 78 [some (.ref c), some (.int v1), some (.int v2), some (.int v3), some (.int v4), some (.int v5), some (.ref v6), some (.int v7), none] [.int r11, .int v1, .ref c] hp (some (.int res)) hp
      replace hf := bnd hf
      obtain ⟨r12, hr12, hf⟩ := hf
      refine Fx.callV (rr := (some (.int r12))) (hp1 := hp) [.int v1, .int r11] [] lk_8_272 (by decide +kernel) (t_TJ_countThere sh c (hS) hp v1 r11 r12 hr12) ⟨Nat.le_of_ble_eq_true rfl, Nat.le_of_ble_eq_true rfl⟩ (hS).1 (by decide) rfl (Nat.le_of_ble_eq_true rfl) ?_
      show Fx q_TJ_crowd 6 sh 81 [some (.ref c), some (.int v1), some (.int v2), some (.int v3), some (.int v4), some (.int v5), some (.ref v6), some (.int v7), none] [.int r12] hp (some (.int res)) hp
      refine Fx.run [(.istore 8, 2, 8, 0, .null), (.iload 8, 2, 8, 0, .null), (.iload_n 3, 1, 3, 0, .null)] 86 (by decide +kernel) ?_
      show Fx q_TJ_crowd 6 sh 86 [some (.ref c), some (.int v1), some (.int v2), some (.int v3), some (.int v4), some (.int v5), some (.ref v6), some (.int v7), some (.int r12)] [.int v3, .int r12] hp (some (.int res)) hp
      refine Fx.icmp_gt (22) 108 89 (by decide +kernel) (fun b13 => ?_) (fun b13 => ?_)
      · replace hf := ifp b13 hf
        replace hf := gd hf
        obtain ⟨g14, hf⟩ := hf
        refine Fx.run [(.iload 8, 2, 8, 0, .null), (.istore_n 3, 1, 3, 0, .null), (.aload 6, 2, 6, 0, .null), (.getfield 105, 3, 4, 2, .ref 3), (.iload 7, 2, 7, 0, .null), (.iaload, 1, 40, 0, .null), (.istore 4, 2, 4, 0, .null), (.iinc 7 1, 3, 7, 0, .int 1)] 124 (by decide +kernel) ?_
        show isK sh v6 4 ∧ (isA sh (v6 + 3) 10 40 ∧ inb v7 40) ∧ Fx q_TJ_crowd 6 sh 124 [some (.ref c), some (.int v1), some (.int v2), some (.int r12), some (.int (hp.1 (v6 + 3) (ix v7))), some (.int v5), some (.ref v6), some (.int (v7 + 1)), some (.int r12)] [] hp (some (.int res)) hp
        refine ⟨hv6.1, ⟨hv6.2.2.2.1, g14⟩, ?_⟩
        refine Fx.goto (-77) 47 (by decide +kernel) ?_
        obtain rfl := Option.some.inj hf
        have hk : Fx q_TJ_crowd 6 sh 47 [some (.ref c), some (.int v1), some (.int v2), some (.int r12), some (.int (hp.1 (v6 + 3) (ix v7))), some (.int v5), some (.ref v6), some (.int (v7 + 1)), none] [] hp (some (.int res)) hp := hk
        exact Fx.le hk (And.intro rfl (And.intro rfl (And.intro rfl (And.intro rfl (And.intro rfl (And.intro rfl (And.intro rfl (And.intro rfl trivial))))))))
      · replace hf := ifn b13 hf
        refine Fx.run [(.iload 8, 2, 8, 0, .null), (.iload_n 3, 1, 3, 0, .null)] 92 (by decide +kernel) ?_
        show Fx q_TJ_crowd 6 sh 92 [some (.ref c), some (.int v1), some (.int v2), some (.int v3), some (.int v4), some (.int v5), some (.ref v6), some (.int v7), some (.int r12)] [.int v3, .int r12] hp (some (.int res)) hp
        refine Fx.icmp_ne (29) 121 95 (by decide +kernel) (fun b15 => ?_) (fun b15 => ?_)
        · replace hf := ifn b15 hf
          refine Fx.run [(.iinc 7 1, 3, 7, 0, .int 1)] 124 (by decide +kernel) ?_
          show Fx q_TJ_crowd 6 sh 124 [some (.ref c), some (.int v1), some (.int v2), some (.int v3), some (.int v4), some (.int v5), some (.ref v6), some (.int (v7 + 1)), some (.int r12)] [] hp (some (.int res)) hp
          refine Fx.goto (-77) 47 (by decide +kernel) ?_
          obtain rfl := Option.some.inj hf
          have hk : Fx q_TJ_crowd 6 sh 47 [some (.ref c), some (.int v1), some (.int v2), some (.int v3), some (.int v4), some (.int v5), some (.ref v6), some (.int (v7 + 1)), none] [] hp (some (.int res)) hp := hk
          exact Fx.le hk (And.intro rfl (And.intro rfl (And.intro rfl (And.intro rfl (And.intro rfl (And.intro rfl (And.intro rfl (And.intro rfl trivial))))))))
        · replace hf := ifp b15 hf
          replace hf := gd hf
          obtain ⟨g16, hf⟩ := hf
          refine Fx.run [(.aload 6, 2, 6, 0, .null), (.getfield 105, 3, 4, 2, .ref 3), (.iload 7, 2, 7, 0, .null), (.iaload, 1, 40, 0, .null), (.iload 4, 2, 4, 0, .null)] 105 (by decide +kernel) ?_
          show isK sh v6 4 ∧ (isA sh (v6 + 3) 10 40 ∧ inb v7 40) ∧ Fx q_TJ_crowd 6 sh 105 [some (.ref c), some (.int v1), some (.int v2), some (.int v3), some (.int v4), some (.int v5), some (.ref v6), some (.int v7), some (.int r12)] [.int v4, .int (hp.1 (v6 + 3) (ix v7))] hp (some (.int res)) hp
          refine ⟨hv6.1, ⟨hv6.2.2.2.1, g16⟩, ?_⟩
          refine Fx.icmp_ge (16) 121 108 (by decide +kernel) (fun b17 => ?_) (fun b17 => ?_)
          · replace hf := ifp b17 hf
            refine Fx.run [(.iinc 7 1, 3, 7, 0, .int 1)] 124 (by decide +kernel) ?_
            show Fx q_TJ_crowd 6 sh 124 [some (.ref c), some (.int v1), some (.int v2), some (.int v3), some (.int v4), some (.int v5), some (.ref v6), some (.int (v7 + 1)), some (.int r12)] [] hp (some (.int res)) hp
            refine Fx.goto (-77) 47 (by decide +kernel) ?_
            obtain rfl := Option.some.inj hf
            have hk : Fx q_TJ_crowd 6 sh 47 [some (.ref c), some (.int v1), some (.int v2), some (.int v3), some (.int v4), some (.int v5), some (.ref v6), some (.int (v7 + 1)), none] [] hp (some (.int res)) hp := hk
            exact Fx.le hk (And.intro rfl (And.intro rfl (And.intro rfl (And.intro rfl (And.intro rfl (And.intro rfl (And.intro rfl (And.intro rfl trivial))))))))
          · replace hf := ifn b17 hf
            replace hf := gd hf
            obtain ⟨g18, hf⟩ := hf
            refine Fx.run [(.iload 8, 2, 8, 0, .null), (.istore_n 3, 1, 3, 0, .null), (.aload 6, 2, 6, 0, .null), (.getfield 105, 3, 4, 2, .ref 3), (.iload 7, 2, 7, 0, .null), (.iaload, 1, 40, 0, .null), (.istore 4, 2, 4, 0, .null), (.iinc 7 1, 3, 7, 0, .int 1)] 124 (by decide +kernel) ?_
            show isK sh v6 4 ∧ (isA sh (v6 + 3) 10 40 ∧ inb v7 40) ∧ Fx q_TJ_crowd 6 sh 124 [some (.ref c), some (.int v1), some (.int v2), some (.int r12), some (.int (hp.1 (v6 + 3) (ix v7))), some (.int v5), some (.ref v6), some (.int (v7 + 1)), some (.int r12)] [] hp (some (.int res)) hp
            refine ⟨hv6.1, ⟨hv6.2.2.2.1, g18⟩, ?_⟩
            refine Fx.goto (-77) 47 (by decide +kernel) ?_
            obtain rfl := Option.some.inj hf
            have hk : Fx q_TJ_crowd 6 sh 47 [some (.ref c), some (.int v1), some (.int v2), some (.int r12), some (.int (hp.1 (v6 + 3) (ix v7))), some (.int v5), some (.ref v6), some (.int (v7 + 1)), none] [] hp (some (.int res)) hp := hk
            exact Fx.le hk (And.intro rfl (And.intro rfl (And.intro rfl (And.intro rfl (And.intro rfl (And.intro rfl (And.intro rfl (And.intro rfl trivial))))))))
set_option maxHeartbeats 4000000 in
set_option maxRecDepth 20000 in
theorem t_TJ_crowd_l27 (sh : Shp) (c : Nat) (hS : S_TJ sh c) (hp : HP) (v1 : Int32) (v2 : Int32) (res : Int32) : ∀ (s : (Int32 × Int32 × Int32)) (t : Int32), f_TJ_crowd_l27 c hp v1 v2 s = some t → (fun v => v = res) t → P_TJ_crowd_27 sh c hp v1 v2 res s := by
  refine loop_ind (P_TJ_crowd_27 sh c hp v1 v2 res) (fun v => v = res) ?_
  intro s t hf hk
  obtain ⟨v3, v4, v5⟩ := s
  replace hf : f_TJ_crowd_b27 c hp v1 v2 v3 v4 v5 = some t := hf
  show Fx q_TJ_crowd 6 sh 27 [some (.ref c), some (.int v1), some (.int v2), some (.int v3), some (.int v4), some (.int v5), none, none, none] [] hp (some (.int res)) hp
  unfold f_TJ_crowd_b27 at hf
  refine Fx.run [(.iload 5, 2, 5, 0, .null), (.iconst 2, 1, 0, 0, .int 2)] 30 (by decide +kernel) ?_
  show Fx q_TJ_crowd 6 sh 30 [some (.ref c), some (.int v1), some (.int v2), some (.int v3), some (.int v4), some (.int v5), none, none, none] [.int 2, .int v5] hp (some (.int res)) hp
  refine Fx.icmp_ge (103) 133 33 (by decide +kernel) (fun b5 => ?_) (fun b5 => ?_)
  · replace hf := ifp b5 hf
    replace hf := mpd hf
    obtain ⟨t, hf, rfl⟩ := hf
    refine Fx.run [(.iload_n 2, 1, 2, 0, .null)] 134 (by decide +kernel) ?_
    show Fx q_TJ_crowd 6 sh 134 [some (.ref c), some (.int v1), some (.int v2), some (.int v3), some (.int v4), some (.int v5), none, none, none] [.int v2] hp (some (.int res)) hp
    refine Fx.if_ne (7) 141 137 (by decide +kernel) (fun b6 => ?_) (fun b6 => ?_)
    · replace hf := ifn b6 hf
      refine Fx.run [(.iload 4, 2, 4, 0, .null)] 143 (by decide +kernel) ?_
      show Fx q_TJ_crowd 6 sh 143 [some (.ref c), some (.int v1), some (.int v2), some (.int v3), some (.int v4), some (.int v5), none, none, none] [.int v4] hp (some (.int res)) hp
      obtain rfl := Option.some.inj hf
      have hk : v4 = res := hk
      subst hk
      exact Fx.iret (by decide +kernel) rfl
    · replace hf := ifp b6 hf
      refine Fx.run [(.iload_n 3, 1, 3, 0, .null)] 138 (by decide +kernel) ?_
      show Fx q_TJ_crowd 6 sh 138 [some (.ref c), some (.int v1), some (.int v2), some (.int v3), some (.int v4), some (.int v5), none, none, none] [.int v3] hp (some (.int res)) hp
      refine Fx.goto (5) 143 (by decide +kernel) ?_
      obtain rfl := Option.some.inj hf
      have hk : v3 = res := hk
      subst hk
      exact Fx.iret (by decide +kernel) rfl
  · replace hf := ifn b5 hf
    refine Fx.run [(.aload_n 0, 1, 0, 0, .null), (.getfield 12, 3, 8, 0, .ref 1), (.iload 5, 2, 5, 0, .null)] 39 (by decide +kernel) ?_
    show isK sh c 8 ∧ Fx q_TJ_crowd 6 sh 39 [some (.ref c), some (.int v1), some (.int v2), some (.int v3), some (.int v4), some (.int v5), none, none, none] [.int v5, .ref (c + 1)] hp (some (.int res)) hp
    refine ⟨hS.1, ?_⟩
    replace hf := bnd hf
    obtain ⟨r7, hr7, hf⟩ := hf
    refine Fx.callV (rr := (some (.ref r7))) (hp1 := hp) [.int v5] [] lk_8_95 (by decide +kernel) (t_St_rowsOf sh (c + 1) (hS.2.1) hp v5 r7 hr7) ⟨Nat.le_of_ble_eq_true rfl, Nat.le_of_ble_eq_true rfl⟩ (hS.2.1).1 (by decide) rfl (Nat.le_of_ble_eq_true rfl) ?_
    show Fx q_TJ_crowd 6 sh 42 [some (.ref c), some (.int v1), some (.int v2), some (.int v3), some (.int v4), some (.int v5), none, none, none] [.ref r7] hp (some (.int res)) hp
    refine Fx.run [(.astore 6, 2, 6, 0, .null), (.iconst 0, 1, 0, 0, .int 0), (.istore 7, 2, 7, 0, .null)] 47 (by decide +kernel) ?_
    show Fx q_TJ_crowd 6 sh 47 [some (.ref c), some (.int v1), some (.int v2), some (.int v3), some (.int v4), some (.int v5), some (.ref r7), some (.int 0), none] [] hp (some (.int res)) hp
    have hl := t_TJ_crowd_l47 sh c hS hp v1 v2 v5 r7 ((rowsOf_S hS.2.1 hr7)) res (v3, v4, 0) _ hf hk
    have hl : Fx q_TJ_crowd 6 sh 47 [some (.ref c), some (.int v1), some (.int v2), some (.int v3), some (.int v4), some (.int v5), some (.ref r7), some (.int 0), none] [] hp (some (.int res)) hp := hl
    exact Fx.le hl (And.intro rfl (And.intro rfl (And.intro rfl (And.intro rfl (And.intro rfl (And.intro rfl (And.intro rfl (And.intro rfl trivial))))))))
set_option maxHeartbeats 4000000 in
set_option maxRecDepth 20000 in
theorem t_TJ_crowd (sh : Shp) (c : Nat) (hS : S_TJ sh c) (hp : HP) (v1 : Int32) (v2 : Int32) (res : Int32) (hf : f_TJ_crowd c hp v1 v2 = some res) : Ex 6 q_TJ_crowd sh [.ref c, .int v1, .int v2] hp (some (.int res)) hp := by
  refine Ex.of [some (.ref c), some (.int v1), some (.int v2), none, none, none, none, none, none] rfl (Nat.le_of_ble_eq_true rfl) (by decide +kernel) rfl ?_
  obtain ⟨t, hk⟩ : ∃ t, t = res := ⟨res, rfl⟩
  rw [← hk] at hf
  unfold f_TJ_crowd at hf
  refine Fx.run [(.iload_n 1, 1, 1, 0, .null)] 1 (by decide +kernel) ?_
  show Fx q_TJ_crowd 6 sh 1 [some (.ref c), some (.int v1), some (.int v2), none, none, none, none, none, none] [.int v1] hp (some (.int res)) hp
  replace hf := bnd hf
  obtain ⟨r1, hr1, hf⟩ := hf
  refine Fx.callS (rr := (some (.int r1))) (hp1 := hp) [.int v1] [] lk_8_249 (by decide +kernel) (t_TJ_isKey sh hp v1 r1 hr1) ⟨Nat.le_of_ble_eq_true rfl, Nat.le_of_ble_eq_true rfl⟩ rfl (Nat.le_of_ble_eq_true rfl) ?_
  show Fx q_TJ_crowd 6 sh 4 [some (.ref c), some (.int v1), some (.int v2), none, none, none, none, none, none] [.int r1] hp (some (.int res)) hp
  refine Fx.if_eq (12) 16 7 (by decide +kernel) (fun b2 => ?_) (fun b2 => ?_)
  · replace hf := ifp b2 hf
    refine Fx.run [(.ldc 123, 2, 0, 0, .int (-10000000))] 18 (by decide +kernel) ?_
    show Fx q_TJ_crowd 6 sh 18 [some (.ref c), some (.int v1), some (.int v2), none, none, none, none, none, none] [.int (-10000000)] hp (some (.int res)) hp
    obtain rfl := Option.some.inj hf
    have hk : (-10000000) = res := hk
    subst hk
    exact Fx.iret (by decide +kernel) rfl
  · replace hf := ifn b2 hf
    refine Fx.run [(.iload_n 2, 1, 2, 0, .null)] 8 (by decide +kernel) ?_
    show Fx q_TJ_crowd 6 sh 8 [some (.ref c), some (.int v1), some (.int v2), none, none, none, none, none, none] [.int v2] hp (some (.int res)) hp
    refine Fx.if_lt (8) 16 11 (by decide +kernel) (fun b3 => ?_) (fun b3 => ?_)
    · replace hf := ifp b3 hf
      refine Fx.run [(.ldc 123, 2, 0, 0, .int (-10000000))] 18 (by decide +kernel) ?_
      show Fx q_TJ_crowd 6 sh 18 [some (.ref c), some (.int v1), some (.int v2), none, none, none, none, none, none] [.int (-10000000)] hp (some (.int res)) hp
      obtain rfl := Option.some.inj hf
      have hk : (-10000000) = res := hk
      subst hk
      exact Fx.iret (by decide +kernel) rfl
    · replace hf := ifn b3 hf
      refine Fx.run [(.iload_n 2, 1, 2, 0, .null), (.iconst 1, 1, 0, 0, .int 1)] 13 (by decide +kernel) ?_
      show Fx q_TJ_crowd 6 sh 13 [some (.ref c), some (.int v1), some (.int v2), none, none, none, none, none, none] [.int 1, .int v2] hp (some (.int res)) hp
      refine Fx.icmp_le (6) 19 16 (by decide +kernel) (fun b4 => ?_) (fun b4 => ?_)
      · replace hf := ifp b4 hf
        refine Fx.run [(.iconst 0, 1, 0, 0, .int 0), (.istore_n 3, 1, 3, 0, .null), (.iconst 0, 1, 0, 0, .int 0), (.istore 4, 2, 4, 0, .null), (.iconst 0, 1, 0, 0, .int 0), (.istore 5, 2, 5, 0, .null)] 27 (by decide +kernel) ?_
        show Fx q_TJ_crowd 6 sh 27 [some (.ref c), some (.int v1), some (.int v2), some (.int 0), some (.int 0), some (.int 0), none, none, none] [] hp (some (.int res)) hp
        have hl := t_TJ_crowd_l27 sh c hS hp v1 v2 res (0, 0, 0) _ hf hk
        have hl : Fx q_TJ_crowd 6 sh 27 [some (.ref c), some (.int v1), some (.int v2), some (.int 0), some (.int 0), some (.int 0), none, none, none] [] hp (some (.int res)) hp := hl
        exact Fx.le hl (And.intro rfl (And.intro rfl (And.intro rfl (And.intro rfl (And.intro rfl (And.intro rfl trivial))))))
      · replace hf := ifn b4 hf
        refine Fx.run [(.ldc 123, 2, 0, 0, .int (-10000000))] 18 (by decide +kernel) ?_
        show Fx q_TJ_crowd 6 sh 18 [some (.ref c), some (.int v1), some (.int v2), none, none, none, none, none, none] [.int (-10000000)] hp (some (.int res)) hp
        obtain rfl := Option.some.inj hf
        have hk : (-10000000) = res := hk
        subst hk
        exact Fx.iret (by decide +kernel) rfl
set_option maxHeartbeats 4000000 in
set_option maxRecDepth 20000 in
theorem t_Ro_valueOf (sh : Shp) (c : Nat) (hS : S_Ro sh c) (hp : HP) (v1 : Int32) (res : Int32) (hf : f_Ro_valueOf c hp v1 = some res) : Ex 2 q_Ro_valueOf sh [.ref c, .int v1] hp (some (.int res)) hp := by
  refine Ex.of [some (.ref c), some (.int v1)] rfl (Nat.le_of_ble_eq_true rfl) (by decide +kernel) rfl ?_
  obtain ⟨t, hk⟩ : ∃ t, t = res := ⟨res, rfl⟩
  rw [← hk] at hf
  unfold f_Ro_valueOf at hf
  refine Fx.run [(.aload_n 0, 1, 0, 0, .null), (.iload_n 1, 1, 1, 0, .null)] 2 (by decide +kernel) ?_
  show Fx q_Ro_valueOf 2 sh 2 [some (.ref c), some (.int v1)] [.int v1, .ref c] hp (some (.int res)) hp
  replace hf := bnd hf
  obtain ⟨r1, hr1, hf⟩ := hf
  refine Fx.callV (rr := (some (.int r1))) (hp1 := hp) [.int v1] [] lk_4_51 (by decide +kernel) (t_Ro_has sh c (hS) hp v1 r1 hr1) ⟨Nat.le_of_ble_eq_true rfl, Nat.le_of_ble_eq_true rfl⟩ (hS).1 (by decide) rfl (Nat.le_of_ble_eq_true rfl) ?_
  show Fx q_Ro_valueOf 2 sh 5 [some (.ref c), some (.int v1)] [.int r1] hp (some (.int res)) hp
  refine Fx.if_eq (12) 17 8 (by decide +kernel) (fun b2 => ?_) (fun b2 => ?_)
  · replace hf := ifp b2 hf
    refine Fx.run [(.iconst 0, 1, 0, 0, .int 0)] 18 (by decide +kernel) ?_
    show Fx q_Ro_valueOf 2 sh 18 [some (.ref c), some (.int v1)] [.int 0] hp (some (.int res)) hp
    obtain rfl := Option.some.inj hf
    have hk : 0 = res := hk
    subst hk
    exact Fx.iret (by decide +kernel) rfl
  · replace hf := ifn b2 hf
    replace hf := gd hf
    obtain ⟨g3, hf⟩ := hf
    refine Fx.run [(.aload_n 0, 1, 0, 0, .null), (.getfield 24, 3, 4, 4, .ref 5), (.iload_n 1, 1, 1, 0, .null), (.iaload, 1, 40, 0, .null)] 14 (by decide +kernel) ?_
    show isK sh c 4 ∧ (isA sh (c + 5) 10 40 ∧ inb v1 40) ∧ Fx q_Ro_valueOf 2 sh 14 [some (.ref c), some (.int v1)] [.int (hp.1 (c + 5) (ix v1))] hp (some (.int res)) hp
    refine ⟨hS.1, ⟨hS.2.2.2.2.2, g3⟩, ?_⟩
    refine Fx.goto (4) 18 (by decide +kernel) ?_
    obtain rfl := Option.some.inj hf
    have hk : (hp.1 (c + 5) (ix v1)) = res := hk
    subst hk
    exact Fx.iret (by decide +kernel) rfl
set_option maxHeartbeats 4000000 in
set_option maxRecDepth 20000 in
theorem t_Pa_reach (sh : Shp) (c : Nat) (hS : S_Pa sh c) (hp : HP) (v1 : Int32) (res : Int32) (hf : f_Pa_reach c hp v1 = some res) : Ex 1 q_Pa_reach sh [.ref c, .int v1] hp (some (.int res)) hp := by
  refine Ex.of [some (.ref c), some (.int v1)] rfl (Nat.le_of_ble_eq_true rfl) (by decide +kernel) rfl ?_
  obtain ⟨t, hk⟩ : ∃ t, t = res := ⟨res, rfl⟩
  rw [← hk] at hf
  unfold f_Pa_reach at hf
  refine Fx.run [(.iload_n 1, 1, 1, 0, .null)] 1 (by decide +kernel) ?_
  show Fx q_Pa_reach 1 sh 1 [some (.ref c), some (.int v1)] [.int v1] hp (some (.int res)) hp
  refine Fx.if_lt (20) 21 4 (by decide +kernel) (fun b1 => ?_) (fun b1 => ?_)
  · replace hf := ifp b1 hf
    refine Fx.run [(.iconst 0, 1, 0, 0, .int 0)] 22 (by decide +kernel) ?_
    show Fx q_Pa_reach 1 sh 22 [some (.ref c), some (.int v1)] [.int 0] hp (some (.int res)) hp
    obtain rfl := Option.some.inj hf
    have hk : 0 = res := hk
    subst hk
    exact Fx.iret (by decide +kernel) rfl
  · replace hf := ifn b1 hf
    refine Fx.run [(.iload_n 1, 1, 1, 0, .null), (.aload_n 0, 1, 0, 0, .null), (.getfield 18, 3, 3, 2, .null)] 9 (by decide +kernel) ?_
    show isK sh c 3 ∧ Fx q_Pa_reach 1 sh 9 [some (.ref c), some (.int v1)] [.int (hp.1 c 2), .int v1] hp (some (.int res)) hp
    refine ⟨hS.1, ?_⟩
    refine Fx.icmp_ge (12) 21 12 (by decide +kernel) (fun b2 => ?_) (fun b2 => ?_)
    · replace hf := ifp b2 hf
      refine Fx.run [(.iconst 0, 1, 0, 0, .int 0)] 22 (by decide +kernel) ?_
      show Fx q_Pa_reach 1 sh 22 [some (.ref c), some (.int v1)] [.int 0] hp (some (.int res)) hp
      obtain rfl := Option.some.inj hf
      have hk : 0 = res := hk
      subst hk
      exact Fx.iret (by decide +kernel) rfl
    · replace hf := ifn b2 hf
      replace hf := gd hf
      obtain ⟨g3, hf⟩ := hf
      refine Fx.run [(.aload_n 0, 1, 0, 0, .null), (.getfield 15, 3, 3, 1, .ref 2), (.iload_n 1, 1, 1, 0, .null), (.iaload, 1, 160, 0, .null)] 18 (by decide +kernel) ?_
      show isK sh c 3 ∧ (isA sh (c + 2) 10 160 ∧ inb v1 160) ∧ Fx q_Pa_reach 1 sh 18 [some (.ref c), some (.int v1)] [.int (hp.1 (c + 2) (ix v1))] hp (some (.int res)) hp
      refine ⟨hS.1, ⟨hS.2.2, g3⟩, ?_⟩
      refine Fx.goto (4) 22 (by decide +kernel) ?_
      obtain rfl := Option.some.inj hf
      have hk : (hp.1 (c + 2) (ix v1)) = res := hk
      subst hk
      exact Fx.iret (by decide +kernel) rfl
set_option maxHeartbeats 4000000 in
set_option maxRecDepth 20000 in
theorem t_Pa_widen (sh : Shp) (c : Nat) (hS : S_Pa sh c) (hp : HP) (v1 : Int32) (v2 : Int32) (res : HP) (hf : f_Pa_widen c hp v1 v2 = some res) : Ex 2 q_Pa_widen sh [.ref c, .int v1, .int v2] hp none res := by
  refine Ex.of [some (.ref c), some (.int v1), some (.int v2)] rfl (Nat.le_of_ble_eq_true rfl) (by decide +kernel) rfl ?_
  obtain ⟨t, hk⟩ : ∃ t, t = res := ⟨res, rfl⟩
  rw [← hk] at hf
  unfold f_Pa_widen at hf
  refine Fx.run [(.iload_n 1, 1, 1, 0, .null)] 1 (by decide +kernel) ?_
  show Fx q_Pa_widen 2 sh 1 [some (.ref c), some (.int v1), some (.int v2)] [.int v1] hp none res
  refine Fx.if_lt (60) 61 4 (by decide +kernel) (fun b1 => ?_) (fun b1 => ?_)
  · replace hf := ifp b1 hf
    obtain rfl := Option.some.inj hf
    have hk : hp = res := hk
    subst hk
    exact Fx.vret (by decide +kernel) rfl
  · replace hf := ifn b1 hf
    refine Fx.run [(.iload_n 1, 1, 1, 0, .null), (.aload_n 0, 1, 0, 0, .null), (.getfield 18, 3, 3, 2, .null)] 9 (by decide +kernel) ?_
    show isK sh c 3 ∧ Fx q_Pa_widen 2 sh 9 [some (.ref c), some (.int v1), some (.int v2)] [.int (hp.1 c 2), .int v1] hp none res
    refine ⟨hS.1, ?_⟩
    refine Fx.icmp_ge (52) 61 12 (by decide +kernel) (fun b2 => ?_) (fun b2 => ?_)
    · replace hf := ifp b2 hf
      obtain rfl := Option.some.inj hf
      have hk : hp = res := hk
      subst hk
      exact Fx.vret (by decide +kernel) rfl
    · replace hf := ifn b2 hf
      replace hf := gd hf
      obtain ⟨g3, hf⟩ := hf
      refine Fx.run [(.aload_n 0, 1, 0, 0, .null), (.getfield 15, 3, 3, 1, .ref 2), (.iload_n 1, 1, 1, 0, .null), (.aload_n 0, 1, 0, 0, .null), (.getfield 15, 3, 3, 1, .ref 2), (.iload_n 1, 1, 1, 0, .null), (.iaload, 1, 160, 0, .null), (.iload_n 2, 1, 2, 0, .null)] 24 (by decide +kernel) ?_
      show isK sh c 3 ∧ isK sh c 3 ∧ (isA sh (c + 2) 10 160 ∧ inb v1 160) ∧ Fx q_Pa_widen 2 sh 24 [some (.ref c), some (.int v1), some (.int v2)] [.int v2, .int (hp.1 (c + 2) (ix v1)), .int v1, .ref (c + 2)] hp none res
      refine ⟨hS.1, hS.1, ⟨hS.2.2, g3⟩, ?_⟩
      refine Fx.mmax lk_3_27 (by decide +kernel) (by decide) (Nat.le_of_ble_eq_true rfl) ?_
      show Fx q_Pa_widen 2 sh 27 [some (.ref c), some (.int v1), some (.int v2)] [.int (if (hp.1 (c + 2) (ix v1)) < v2 then v2 else (hp.1 (c + 2) (ix v1))), .int v1, .ref (c + 2)] hp none res
      replace hf := gd hf
      obtain ⟨g4, hf⟩ := hf
      replace hf := gd hf
      obtain ⟨g5, hf⟩ := hf
      refine Fx.run [(.iastore, 1, 160, 0, .null), (.aload_n 0, 1, 0, 0, .null), (.getfield 11, 3, 3, 0, .ref 1), (.iload_n 1, 1, 1, 0, .null), (.iconst 5, 1, 0, 0, .int 5), (.imul, 1, 0, 0, .null), (.iconst 2, 1, 0, 0, .int 2), (.iadd, 1, 0, 0, .null), (.aload_n 0, 1, 0, 0, .null), (.getfield 15, 3, 3, 1, .ref 2), (.iload_n 1, 1, 1, 0, .null), (.iaload, 1, 160, 0, .null)] 43 (by decide +kernel) ?_
      show (isA sh (c + 2) 10 160 ∧ inb v1 160) ∧ isK sh c 3 ∧ isK sh c 3 ∧ (isA sh (c + 2) 10 160 ∧ inb v1 160) ∧ Fx q_Pa_widen 2 sh 43 [some (.ref c), some (.int v1), some (.int v2)] [.int ((upI hp (c + 2) (ix v1) (if (hp.1 (c + 2) (ix v1)) < v2 then v2 else (hp.1 (c + 2) (ix v1)))).1 (c + 2) (ix v1)), .int ((v1 * 5) + 2), .ref (c + 1)] (upI hp (c + 2) (ix v1) (if (hp.1 (c + 2) (ix v1)) < v2 then v2 else (hp.1 (c + 2) (ix v1)))) none res
      refine ⟨⟨hS.2.2, g4⟩, hS.1, hS.1, ⟨hS.2.2, g5⟩, ?_⟩
      replace hf := bnd hf
      obtain ⟨r6, hr6, hf⟩ := hf
      refine Fx.callN (rr := (some (.int r6))) (hp1 := (upI hp (c + 2) (ix v1) (if (hp.1 (c + 2) (ix v1)) < v2 then v2 else (hp.1 (c + 2) (ix v1))))) [.int ((upI hp (c + 2) (ix v1) (if (hp.1 (c + 2) (ix v1)) < v2 then v2 else (hp.1 (c + 2) (ix v1)))).1 (c + 2) (ix v1))] [.int ((v1 * 5) + 2), .ref (c + 1)] lk_3_32 (by decide +kernel) (t_TJ_timeOf sh (upI hp (c + 2) (ix v1) (if (hp.1 (c + 2) (ix v1)) < v2 then v2 else (hp.1 (c + 2) (ix v1)))) ((upI hp (c + 2) (ix v1) (if (hp.1 (c + 2) (ix v1)) < v2 then v2 else (hp.1 (c + 2) (ix v1)))).1 (c + 2) (ix v1)) r6 hr6) ⟨Nat.le_of_ble_eq_true rfl, Nat.le_of_ble_eq_true rfl⟩ rfl (Nat.le_of_ble_eq_true rfl) ?_
      show Fx q_Pa_widen 2 sh 46 [some (.ref c), some (.int v1), some (.int v2)] [.int r6, .int ((v1 * 5) + 2), .ref (c + 1)] (upI hp (c + 2) (ix v1) (if (hp.1 (c + 2) (ix v1)) < v2 then v2 else (hp.1 (c + 2) (ix v1)))) none res
      replace hf := gd hf
      obtain ⟨g7, hf⟩ := hf
      replace hf := gd hf
      obtain ⟨g8, hf⟩ := hf
      replace hf := gd hf
      obtain ⟨g9, hf⟩ := hf
      refine Fx.run [(.iastore, 1, 800, 0, .null), (.aload_n 0, 1, 0, 0, .null), (.getfield 11, 3, 3, 0, .ref 1), (.iload_n 1, 1, 1, 0, .null), (.iconst 5, 1, 0, 0, .int 5), (.imul, 1, 0, 0, .null), (.iconst 4, 1, 0, 0, .int 4), (.iadd, 1, 0, 0, .null), (.dup2, 1, 0, 0, .null), (.iaload, 1, 800, 0, .null), (.iconst 1, 1, 0, 0, .int 1), (.iadd, 1, 0, 0, .null), (.iastore, 1, 800, 0, .null)] 61 (by decide +kernel) ?_
      show (isA sh (c + 1) 10 800 ∧ inb ((v1 * 5) + 2) 800) ∧ isK sh c 3 ∧ (isA sh (c + 1) 10 800 ∧ inb ((v1 * 5) + 4) 800) ∧ (isA sh (c + 1) 10 800 ∧ inb ((v1 * 5) + 4) 800) ∧ Fx q_Pa_widen 2 sh 61 [some (.ref c), some (.int v1), some (.int v2)] [] (upI (upI (upI hp (c + 2) (ix v1) (if (hp.1 (c + 2) (ix v1)) < v2 then v2 else (hp.1 (c + 2) (ix v1)))) (c + 1) (ix ((v1 * 5) + 2)) r6) (c + 1) (ix ((v1 * 5) + 4)) (((upI (upI hp (c + 2) (ix v1) (if (hp.1 (c + 2) (ix v1)) < v2 then v2 else (hp.1 (c + 2) (ix v1)))) (c + 1) (ix ((v1 * 5) + 2)) r6).1 (c + 1) (ix ((v1 * 5) + 4))) + 1)) none res
      refine ⟨⟨hS.2.1, g7⟩, hS.1, ⟨hS.2.1, g8⟩, ⟨hS.2.1, g9⟩, ?_⟩
      obtain rfl := Option.some.inj hf
      have hk : (upI (upI (upI hp (c + 2) (ix v1) (if (hp.1 (c + 2) (ix v1)) < v2 then v2 else (hp.1 (c + 2) (ix v1)))) (c + 1) (ix ((v1 * 5) + 2)) r6) (c + 1) (ix ((v1 * 5) + 4)) (((upI (upI hp (c + 2) (ix v1) (if (hp.1 (c + 2) (ix v1)) < v2 then v2 else (hp.1 (c + 2) (ix v1)))) (c + 1) (ix ((v1 * 5) + 2)) r6).1 (c + 1) (ix ((v1 * 5) + 4))) + 1)) = res := hk
      subst hk
      exact Fx.vret (by decide +kernel) rfl
set_option maxHeartbeats 4000000 in
set_option maxRecDepth 20000 in
theorem t_Pa_setReach (sh : Shp) (c : Nat) (hS : S_Pa sh c) (hp : HP) (v1 : Int32) (res : HP) (hf : f_Pa_setReach c hp v1 = some res) : Ex 1 q_Pa_setReach sh [.ref c, .int v1] hp none res := by
  refine Ex.of [some (.ref c), some (.int v1)] rfl (Nat.le_of_ble_eq_true rfl) (by decide +kernel) rfl ?_
  obtain ⟨t, hk⟩ : ∃ t, t = res := ⟨res, rfl⟩
  rw [← hk] at hf
  unfold f_Pa_setReach at hf
  refine Fx.run [(.aload_n 0, 1, 0, 0, .null), (.getfield 18, 3, 3, 2, .null)] 4 (by decide +kernel) ?_
  show isK sh c 3 ∧ Fx q_Pa_setReach 1 sh 4 [some (.ref c), some (.int v1)] [.int (hp.1 c 2)] hp none res
  refine ⟨hS.1, ?_⟩
  refine Fx.if_le (15) 19 7 (by decide +kernel) (fun b1 => ?_) (fun b1 => ?_)
  · replace hf := ifp b1 hf
    obtain rfl := Option.some.inj hf
    have hk : hp = res := hk
    subst hk
    exact Fx.vret (by decide +kernel) rfl
  · replace hf := ifn b1 hf
    replace hf := gd hf
    obtain ⟨g2, hf⟩ := hf
    refine Fx.run [(.aload_n 0, 1, 0, 0, .null), (.getfield 15, 3, 3, 1, .ref 2), (.aload_n 0, 1, 0, 0, .null), (.getfield 18, 3, 3, 2, .null), (.iconst 1, 1, 0, 0, .int 1), (.isub, 1, 0, 0, .null), (.iload_n 1, 1, 1, 0, .null), (.iastore, 1, 160, 0, .null)] 19 (by decide +kernel) ?_
    show isK sh c 3 ∧ isK sh c 3 ∧ (isA sh (c + 2) 10 160 ∧ inb ((hp.1 c 2) - 1) 160) ∧ Fx q_Pa_setReach 1 sh 19 [some (.ref c), some (.int v1)] [] (upI hp (c + 2) (ix ((hp.1 c 2) - 1)) v1) none res
    refine ⟨hS.1, hS.1, ⟨hS.2.2, g2⟩, ?_⟩
    obtain rfl := Option.some.inj hf
    have hk : (upI hp (c + 2) (ix ((hp.1 c 2) - 1)) v1) = res := hk
    subst hk
    exact Fx.vret (by decide +kernel) rfl
abbrev P_TJ_joinSpan_10 (sh : Shp) (c : Nat) (hp : HP) (v1 : Nat) (v2 : Int32) (v4 : Int32) (res : HP) : (Int32) → Prop := fun s => Fx q_TJ_joinSpan 3 sh 10 [some (.ref c), some (.ref v1), some (.int v2), none, some (.int v4), some (.int s)] [] hp none res
set_option maxHeartbeats 4000000 in
set_option maxRecDepth 20000 in
theorem t_TJ_joinSpan_l10 (sh : Shp) (c : Nat) (hS : S_TJ sh c) (hp : HP) (v1 : Nat) (hv1 : S_Ro sh v1) (v2 : Int32) (v4 : Int32) (res : HP) : ∀ (s : (Int32)) (t : HP), f_TJ_joinSpan_l10 c hp v1 v2 v4 s = some t → (fun v => v = res) t → P_TJ_joinSpan_10 sh c hp v1 v2 v4 res s := by
  refine loop_ind (P_TJ_joinSpan_10 sh c hp v1 v2 v4 res) (fun v => v = res) ?_
  intro s t hf hk
  revert hf hk; revert s; intro v5 hf hk
  replace hf : f_TJ_joinSpan_b10 c hp v1 v2 v4 v5 = some t := hf
  show Fx q_TJ_joinSpan 3 sh 10 [some (.ref c), some (.ref v1), some (.int v2), none, some (.int v4), some (.int v5)] [] hp none res
  unfold f_TJ_joinSpan_b10 at hf
  refine Fx.run [(.iload 5, 2, 5, 0, .null), (.aload_n 0, 1, 0, 0, .null), (.getfield 26, 3, 8, 3, .ref 34), (.getfield 211, 3, 3, 2, .null)] 19 (by decide +kernel) ?_
  show isK sh c 8 ∧ isK sh (c + 34) 3 ∧ Fx q_TJ_joinSpan 3 sh 19 [some (.ref c), some (.ref v1), some (.int v2), none, some (.int v4), some (.int v5)] [.int (hp.1 (c + 34) 2), .int v5] hp none res
  refine ⟨hS.1, hS.2.2.2.1.1, ?_⟩
  refine Fx.icmp_ge (56) 75 22 (by decide +kernel) (fun b2 => ?_) (fun b2 => ?_)
  · replace hf := ifp b2 hf
    replace hf := mpd hf
    obtain ⟨t, hf, rfl⟩ := hf
    refine Fx.run [(.aload_n 0, 1, 0, 0, .null), (.getfield 26, 3, 8, 3, .ref 34), (.aload_n 1, 1, 1, 0, .null), (.iload_n 2, 1, 2, 0, .null)] 81 (by decide +kernel) ?_
    show isK sh c 8 ∧ Fx q_TJ_joinSpan 3 sh 81 [some (.ref c), some (.ref v1), some (.int v2), none, some (.int v4), some (.int v5)] [.int v2, .ref v1, .ref (c + 34)] hp none res
    refine ⟨hS.1, ?_⟩
    replace hf := bnd hf
    obtain ⟨r3, hr3, hf⟩ := hf
    refine Fx.callV (rr := (some (.int r3))) (hp1 := hp) [.int v2] [.ref (c + 34)] lk_8_313 (by decide +kernel) (t_Ro_keyOf sh v1 (hv1) hp v2 r3 hr3) ⟨Nat.le_of_ble_eq_true rfl, Nat.le_of_ble_eq_true rfl⟩ (hv1).1 (by decide) rfl (Nat.le_of_ble_eq_true rfl) ?_
    show Fx q_TJ_joinSpan 3 sh 84 [some (.ref c), some (.ref v1), some (.int v2), none, some (.int v4), some (.int v5)] [.int r3, .ref (c + 34)] hp none res
    refine Fx.run [(.aload_n 1, 1, 1, 0, .null), (.iload_n 2, 1, 2, 0, .null)] 86 (by decide +kernel) ?_
    show Fx q_TJ_joinSpan 3 sh 86 [some (.ref c), some (.ref v1), some (.int v2), none, some (.int v4), some (.int v5)] [.int v2, .ref v1, .int r3, .ref (c + 34)] hp none res
    replace hf := bnd hf
    obtain ⟨r4, hr4, hf⟩ := hf
    refine Fx.callV (rr := (some (.int r4))) (hp1 := hp) [.int v2] [.int r3, .ref (c + 34)] lk_8_231 (by decide +kernel) (t_Ro_startPlace sh v1 (hv1) hp v2 r4 hr4) ⟨Nat.le_of_ble_eq_true rfl, Nat.le_of_ble_eq_true rfl⟩ (hv1).1 (by decide) rfl (Nat.le_of_ble_eq_true rfl) ?_
    show Fx q_TJ_joinSpan 3 sh 89 [some (.ref c), some (.ref v1), some (.int v2), none, some (.int v4), some (.int v5)] [.int r4, .int r3, .ref (c + 34)] hp none res
    replace hf := bnd hf
    obtain ⟨r5, hr5, hf⟩ := hf
    refine Fx.callS (rr := (some (.int r5))) (hp1 := hp) [.int r4] [.int r3, .ref (c + 34)] lk_8_160 (by decide +kernel) (t_TJ_timeOf sh hp r4 r5 hr5) ⟨Nat.le_of_ble_eq_true rfl, Nat.le_of_ble_eq_true rfl⟩ rfl (Nat.le_of_ble_eq_true rfl) ?_
    show Fx q_TJ_joinSpan 3 sh 92 [some (.ref c), some (.ref v1), some (.int v2), none, some (.int v4), some (.int v5)] [.int r5, .int r3, .ref (c + 34)] hp none res
    refine Fx.run [(.aload_n 1, 1, 1, 0, .null), (.iload_n 2, 1, 2, 0, .null)] 94 (by decide +kernel) ?_
    show Fx q_TJ_joinSpan 3 sh 94 [some (.ref c), some (.ref v1), some (.int v2), none, some (.int v4), some (.int v5)] [.int v2, .ref v1, .int r5, .int r3, .ref (c + 34)] hp none res
    replace hf := bnd hf
    obtain ⟨r6, hr6, hf⟩ := hf
    refine Fx.callV (rr := (some (.int r6))) (hp1 := hp) [.int v2] [.int r5, .int r3, .ref (c + 34)] lk_8_307 (by decide +kernel) (t_Ro_endPlace sh v1 (hv1) hp v2 r6 hr6) ⟨Nat.le_of_ble_eq_true rfl, Nat.le_of_ble_eq_true rfl⟩ (hv1).1 (by decide) rfl (Nat.le_of_ble_eq_true rfl) ?_
    show Fx q_TJ_joinSpan 3 sh 97 [some (.ref c), some (.ref v1), some (.int v2), none, some (.int v4), some (.int v5)] [.int r6, .int r5, .int r3, .ref (c + 34)] hp none res
    replace hf := bnd hf
    obtain ⟨r7, hr7, hf⟩ := hf
    refine Fx.callS (rr := (some (.int r7))) (hp1 := hp) [.int r6] [.int r5, .int r3, .ref (c + 34)] lk_8_160 (by decide +kernel) (t_TJ_timeOf sh hp r6 r7 hr7) ⟨Nat.le_of_ble_eq_true rfl, Nat.le_of_ble_eq_true rfl⟩ rfl (Nat.le_of_ble_eq_true rfl) ?_
    show Fx q_TJ_joinSpan 3 sh 100 [some (.ref c), some (.ref v1), some (.int v2), none, some (.int v4), some (.int v5)] [.int r7, .int r5, .int r3, .ref (c + 34)] hp none res
    refine Fx.run [(.iload 4, 2, 4, 0, .null), (.iconst 1, 1, 0, 0, .int 1)] 103 (by decide +kernel) ?_
    show Fx q_TJ_joinSpan 3 sh 103 [some (.ref c), some (.ref v1), some (.int v2), none, some (.int v4), some (.int v5)] [.int 1, .int v4, .int r7, .int r5, .int r3, .ref (c + 34)] hp none res
    replace hf := bnd hf
    obtain ⟨h9, hr8, hf⟩ := hf
    refine Fx.callV (rr := none) (hp1 := h9) [.int r3, .int r5, .int r7, .int v4, .int 1] [] lk_8_316 (by decide +kernel) (t_Pa_put sh (c + 34) (hS.2.2.2.1) hp r3 r5 r7 v4 1 h9 hr8) ⟨Nat.le_of_ble_eq_true rfl, Nat.le_of_ble_eq_true rfl⟩ (hS.2.2.2.1).1 (by decide) rfl (Nat.le_of_ble_eq_true rfl) ?_
    show Fx q_TJ_joinSpan 3 sh 106 [some (.ref c), some (.ref v1), some (.int v2), none, some (.int v4), some (.int v5)] [] h9 none res
    refine Fx.run [(.aload_n 0, 1, 0, 0, .null), (.getfield 26, 3, 8, 3, .ref 34), (.aload_n 1, 1, 1, 0, .null), (.iload_n 2, 1, 2, 0, .null)] 112 (by decide +kernel) ?_
    show isK sh c 8 ∧ Fx q_TJ_joinSpan 3 sh 112 [some (.ref c), some (.ref v1), some (.int v2), none, some (.int v4), some (.int v5)] [.int v2, .ref v1, .ref (c + 34)] h9 none res
    refine ⟨hS.1, ?_⟩
    replace hf := bnd hf
    obtain ⟨r10, hr10, hf⟩ := hf
    refine Fx.callV (rr := (some (.int r10))) (hp1 := h9) [.int v2] [.ref (c + 34)] lk_8_307 (by decide +kernel) (t_Ro_endPlace sh v1 (hv1) h9 v2 r10 hr10) ⟨Nat.le_of_ble_eq_true rfl, Nat.le_of_ble_eq_true rfl⟩ (hv1).1 (by decide) rfl (Nat.le_of_ble_eq_true rfl) ?_
    show Fx q_TJ_joinSpan 3 sh 115 [some (.ref c), some (.ref v1), some (.int v2), none, some (.int v4), some (.int v5)] [.int r10, .ref (c + 34)] h9 none res
    replace hf := bnd hf
    obtain ⟨h12, hr11, hf⟩ := hf
    refine Fx.callV (rr := none) (hp1 := h12) [.int r10] [] lk_8_319 (by decide +kernel) (t_Pa_setReach sh (c + 34) (hS.2.2.2.1) h9 r10 h12 hr11) ⟨Nat.le_of_ble_eq_true rfl, Nat.le_of_ble_eq_true rfl⟩ (hS.2.2.2.1).1 (by decide) rfl (Nat.le_of_ble_eq_true rfl) ?_
    show Fx q_TJ_joinSpan 3 sh 118 [some (.ref c), some (.ref v1), some (.int v2), none, some (.int v4), some (.int v5)] [] h12 none res
    obtain rfl := Option.some.inj hf
    have hk : h12 = res := hk
    subst hk
    exact Fx.vret (by decide +kernel) rfl
  · replace hf := ifn b2 hf
    refine Fx.run [(.aload_n 0, 1, 0, 0, .null), (.getfield 26, 3, 8, 3, .ref 34), (.iload 5, 2, 5, 0, .null), (.iconst 3, 1, 0, 0, .int 3)] 29 (by decide +kernel) ?_
    show isK sh c 8 ∧ Fx q_TJ_joinSpan 3 sh 29 [some (.ref c), some (.ref v1), some (.int v2), none, some (.int v4), some (.int v5)] [.int 3, .int v5, .ref (c + 34)] hp none res
    refine ⟨hS.1, ?_⟩
    replace hf := bnd hf
    obtain ⟨r13, hr13, hf⟩ := hf
    refine Fx.callV (rr := (some (.int r13))) (hp1 := hp) [.int v5, .int 3] [] lk_8_218 (by decide +kernel) (t_Pa_cell sh (c + 34) (hS.2.2.2.1) hp v5 3 r13 hr13) ⟨Nat.le_of_ble_eq_true rfl, Nat.le_of_ble_eq_true rfl⟩ (hS.2.2.2.1).1 (by decide) rfl (Nat.le_of_ble_eq_true rfl) ?_
    show Fx q_TJ_joinSpan 3 sh 32 [some (.ref c), some (.ref v1), some (.int v2), none, some (.int v4), some (.int v5)] [.int r13] hp none res
    refine Fx.run [(.iload 4, 2, 4, 0, .null)] 34 (by decide +kernel) ?_
    show Fx q_TJ_joinSpan 3 sh 34 [some (.ref c), some (.ref v1), some (.int v2), none, some (.int v4), some (.int v5)] [.int v4, .int r13] hp none res
    refine Fx.icmp_ne (35) 69 37 (by decide +kernel) (fun b14 => ?_) (fun b14 => ?_)
    · replace hf := ifn b14 hf
      refine Fx.run [(.iinc 5 1, 3, 5, 0, .int 1)] 72 (by decide +kernel) ?_
      show Fx q_TJ_joinSpan 3 sh 72 [some (.ref c), some (.ref v1), some (.int v2), none, some (.int v4), some (.int (v5 + 1))] [] hp none res
      refine Fx.goto (-62) 10 (by decide +kernel) ?_
      obtain rfl := Option.some.inj hf
      have hk : Fx q_TJ_joinSpan 3 sh 10 [some (.ref c), some (.ref v1), some (.int v2), none, some (.int v4), some (.int (v5 + 1))] [] hp none res := hk
      exact Fx.le hk (And.intro rfl (And.intro rfl (And.intro rfl (And.intro rfl (And.intro rfl trivial)))))
    · replace hf := ifp b14 hf
      refine Fx.run [(.aload_n 0, 1, 0, 0, .null), (.getfield 26, 3, 8, 3, .ref 34), (.iload 5, 2, 5, 0, .null)] 43 (by decide +kernel) ?_
      show isK sh c 8 ∧ Fx q_TJ_joinSpan 3 sh 43 [some (.ref c), some (.ref v1), some (.int v2), none, some (.int v4), some (.int v5)] [.int v5, .ref (c + 34)] hp none res
      refine ⟨hS.1, ?_⟩
      replace hf := bnd hf
      obtain ⟨r15, hr15, hf⟩ := hf
      refine Fx.callV (rr := (some (.int r15))) (hp1 := hp) [.int v5] [] lk_8_304 (by decide +kernel) (t_Pa_reach sh (c + 34) (hS.2.2.2.1) hp v5 r15 hr15) ⟨Nat.le_of_ble_eq_true rfl, Nat.le_of_ble_eq_true rfl⟩ (hS.2.2.2.1).1 (by decide) rfl (Nat.le_of_ble_eq_true rfl) ?_
      show Fx q_TJ_joinSpan 3 sh 46 [some (.ref c), some (.ref v1), some (.int v2), none, some (.int v4), some (.int v5)] [.int r15] hp none res
      refine Fx.run [(.aload_n 1, 1, 1, 0, .null), (.iload_n 2, 1, 2, 0, .null)] 48 (by decide +kernel) ?_
      show Fx q_TJ_joinSpan 3 sh 48 [some (.ref c), some (.ref v1), some (.int v2), none, some (.int v4), some (.int v5)] [.int v2, .ref v1, .int r15] hp none res
      replace hf := bnd hf
      obtain ⟨r16, hr16, hf⟩ := hf
      refine Fx.callV (rr := (some (.int r16))) (hp1 := hp) [.int v2] [.int r15] lk_8_231 (by decide +kernel) (t_Ro_startPlace sh v1 (hv1) hp v2 r16 hr16) ⟨Nat.le_of_ble_eq_true rfl, Nat.le_of_ble_eq_true rfl⟩ (hv1).1 (by decide) rfl (Nat.le_of_ble_eq_true rfl) ?_
      show Fx q_TJ_joinSpan 3 sh 51 [some (.ref c), some (.ref v1), some (.int v2), none, some (.int v4), some (.int v5)] [.int r16, .int r15] hp none res
      refine Fx.icmp_lt (18) 69 54 (by decide +kernel) (fun b17 => ?_) (fun b17 => ?_)
      · replace hf := ifp b17 hf
        refine Fx.run [(.iinc 5 1, 3, 5, 0, .int 1)] 72 (by decide +kernel) ?_
        show Fx q_TJ_joinSpan 3 sh 72 [some (.ref c), some (.ref v1), some (.int v2), none, some (.int v4), some (.int (v5 + 1))] [] hp none res
        refine Fx.goto (-62) 10 (by decide +kernel) ?_
        obtain rfl := Option.some.inj hf
        have hk : Fx q_TJ_joinSpan 3 sh 10 [some (.ref c), some (.ref v1), some (.int v2), none, some (.int v4), some (.int (v5 + 1))] [] hp none res := hk
        exact Fx.le hk (And.intro rfl (And.intro rfl (And.intro rfl (And.intro rfl (And.intro rfl trivial)))))
      · replace hf := ifn b17 hf
        replace hf := mpd hf
        obtain ⟨t, hf, rfl⟩ := hf
        refine Fx.run [(.aload_n 0, 1, 0, 0, .null), (.getfield 26, 3, 8, 3, .ref 34), (.iload 5, 2, 5, 0, .null), (.aload_n 1, 1, 1, 0, .null), (.iload_n 2, 1, 2, 0, .null)] 62 (by decide +kernel) ?_
        show isK sh c 8 ∧ Fx q_TJ_joinSpan 3 sh 62 [some (.ref c), some (.ref v1), some (.int v2), none, some (.int v4), some (.int v5)] [.int v2, .ref v1, .int v5, .ref (c + 34)] hp none res
        refine ⟨hS.1, ?_⟩
        replace hf := bnd hf
        obtain ⟨r18, hr18, hf⟩ := hf
        refine Fx.callV (rr := (some (.int r18))) (hp1 := hp) [.int v2] [.int v5, .ref (c + 34)] lk_8_307 (by decide +kernel) (t_Ro_endPlace sh v1 (hv1) hp v2 r18 hr18) ⟨Nat.le_of_ble_eq_true rfl, Nat.le_of_ble_eq_true rfl⟩ (hv1).1 (by decide) rfl (Nat.le_of_ble_eq_true rfl) ?_
        show Fx q_TJ_joinSpan 3 sh 65 [some (.ref c), some (.ref v1), some (.int v2), none, some (.int v4), some (.int v5)] [.int r18, .int v5, .ref (c + 34)] hp none res
        replace hf := bnd hf
        obtain ⟨h20, hr19, hf⟩ := hf
        refine Fx.callV (rr := none) (hp1 := h20) [.int v5, .int r18] [] lk_8_310 (by decide +kernel) (t_Pa_widen sh (c + 34) (hS.2.2.2.1) hp v5 r18 h20 hr19) ⟨Nat.le_of_ble_eq_true rfl, Nat.le_of_ble_eq_true rfl⟩ (hS.2.2.2.1).1 (by decide) rfl (Nat.le_of_ble_eq_true rfl) ?_
        show Fx q_TJ_joinSpan 3 sh 68 [some (.ref c), some (.ref v1), some (.int v2), none, some (.int v4), some (.int v5)] [] h20 none res
        obtain rfl := Option.some.inj hf
        have hk : h20 = res := hk
        subst hk
        exact Fx.vret (by decide +kernel) rfl
set_option maxHeartbeats 4000000 in
set_option maxRecDepth 20000 in
theorem t_TJ_joinSpan (sh : Shp) (c : Nat) (hS : S_TJ sh c) (hp : HP) (v1 : Nat) (hv1 : S_Ro sh v1) (v2 : Int32) (v3 : Int32) (res : HP) (hf : f_TJ_joinSpan c hp v1 v2 v3 = some res) : Ex 3 q_TJ_joinSpan sh [.ref c, .ref v1, .int v2, .int v3] hp none res := by
  refine Ex.of [some (.ref c), some (.ref v1), some (.int v2), some (.int v3), none, none] rfl (Nat.le_of_ble_eq_true rfl) (by decide +kernel) rfl ?_
  obtain ⟨t, hk⟩ : ∃ t, t = res := ⟨res, rfl⟩
  rw [← hk] at hf
  unfold f_TJ_joinSpan at hf
  refine Fx.run [(.aload_n 1, 1, 1, 0, .null), (.iload_n 2, 1, 2, 0, .null)] 2 (by decide +kernel) ?_
  show Fx q_TJ_joinSpan 3 sh 2 [some (.ref c), some (.ref v1), some (.int v2), some (.int v3), none, none] [.int v2, .ref v1] hp none res
  replace hf := bnd hf
  obtain ⟨r1, hr1, hf⟩ := hf
  refine Fx.callV (rr := (some (.int r1))) (hp1 := hp) [.int v2] [] lk_8_301 (by decide +kernel) (t_Ro_valueOf sh v1 (hv1) hp v2 r1 hr1) ⟨Nat.le_of_ble_eq_true rfl, Nat.le_of_ble_eq_true rfl⟩ (hv1).1 (by decide) rfl (Nat.le_of_ble_eq_true rfl) ?_
  show Fx q_TJ_joinSpan 3 sh 5 [some (.ref c), some (.ref v1), some (.int v2), some (.int v3), none, none] [.int r1] hp none res
  refine Fx.run [(.istore 4, 2, 4, 0, .null), (.iload_n 3, 1, 3, 0, .null), (.istore 5, 2, 5, 0, .null)] 10 (by decide +kernel) ?_
  show Fx q_TJ_joinSpan 3 sh 10 [some (.ref c), some (.ref v1), some (.int v2), some (.int v3), some (.int r1), some (.int v3)] [] hp none res
  have hl := t_TJ_joinSpan_l10 sh c hS hp v1 (hv1) v2 r1 res v3 _ hf hk
  have hl : Fx q_TJ_joinSpan 3 sh 10 [some (.ref c), some (.ref v1), some (.int v2), none, some (.int r1), some (.int v3)] [] hp none res := hl
  exact Fx.le hl (And.intro rfl (And.intro rfl (And.intro rfl (And.intro rfl (And.intro rfl trivial)))))
abbrev P_TJ_makeOne_9 (sh : Shp) (c : Nat) (v1 : Nat) (v2 : Int32) (res : HP) : (HP × Int32) → Prop := fun s => Fx q_TJ_makeOne 4 sh 9 [some (.ref c), some (.ref v1), some (.int v2), some (.int s.2), none, none] [] s.1 none res
abbrev P_TJ_makeOne_93 (sh : Shp) (c : Nat) (v1 : Nat) (v3 : Int32) (res : HP) : (HP × Int32) → Prop := fun s => Fx q_TJ_makeOne 4 sh 93 [some (.ref c), some (.ref v1), none, some (.int v3), some (.int s.2), none] [] s.1 none res
set_option maxHeartbeats 4000000 in
set_option maxRecDepth 20000 in
theorem t_TJ_makeOne_l93 (sh : Shp) (c : Nat) (hS : S_TJ sh c) (hp : HP) (v1 : Nat) (hv1 : S_Ro sh v1) (v3 : Int32) (res : HP) : ∀ (s : (HP × Int32)) (t : HP), f_TJ_makeOne_l93 c hp v1 v3 s = some t → (fun v => v = res) t → P_TJ_makeOne_93 sh c v1 v3 res s := by
  refine loop_ind (P_TJ_makeOne_93 sh c v1 v3 res) (fun v => v = res) ?_
  intro s t hf hk
  obtain ⟨hp, v4⟩ := s
  replace hf : f_TJ_makeOne_b93 c hp v1 v3 v4 = some t := hf
  show Fx q_TJ_makeOne 4 sh 93 [some (.ref c), some (.ref v1), none, some (.int v3), some (.int v4), none] [] hp none res
  unfold f_TJ_makeOne_b93 at hf
  refine Fx.run [(.iload 4, 2, 4, 0, .null), (.aload_n 0, 1, 0, 0, .null), (.getfield 19, 3, 8, 2, .ref 32), (.getfield 291, 3, 0, 1, .null)] 102 (by decide +kernel) ?_
  show isK sh c 8 ∧ isK sh (c + 32) 0 ∧ Fx q_TJ_makeOne 4 sh 102 [some (.ref c), some (.ref v1), none, some (.int v3), some (.int v4), none] [.int (hp.1 (c + 32) 1), .int v4] hp none res
  refine ⟨hS.1, hS.2.2.1.1, ?_⟩
  refine Fx.icmp_ge (29) 131 105 (by decide +kernel) (fun b6 => ?_) (fun b6 => ?_)
  · replace hf := ifp b6 hf
    replace hf := mpd hf
    obtain ⟨t, hf, rfl⟩ := hf
    obtain rfl := Option.some.inj hf
    have hk : hp = res := hk
    subst hk
    exact Fx.vret (by decide +kernel) rfl
  · replace hf := ifn b6 hf
    refine Fx.run [(.aload_n 0, 1, 0, 0, .null), (.aload_n 1, 1, 1, 0, .null), (.aload_n 0, 1, 0, 0, .null), (.getfield 19, 3, 8, 2, .ref 32), (.iload 4, 2, 4, 0, .null)] 113 (by decide +kernel) ?_
    show isK sh c 8 ∧ Fx q_TJ_makeOne 4 sh 113 [some (.ref c), some (.ref v1), none, some (.int v3), some (.int v4), none] [.int v4, .ref (c + 32), .ref v1, .ref c] hp none res
    refine ⟨hS.1, ?_⟩
    replace hf := bnd hf
    obtain ⟨r7, hr7, hf⟩ := hf
    refine Fx.callV (rr := (some (.long r7))) (hp1 := hp) [.int v4] [.ref v1, .ref c] lk_8_292 (by decide +kernel) (t_Co_at sh (c + 32) (hS.2.2.1) hp v4 r7 hr7) ⟨Nat.le_of_ble_eq_true rfl, Nat.le_of_ble_eq_true rfl⟩ (hS.2.2.1).1 (by decide) rfl (Nat.le_of_ble_eq_true rfl) ?_
    show Fx q_TJ_makeOne 4 sh 116 [some (.ref c), some (.ref v1), none, some (.int v3), some (.int v4), none] [.long r7, .ref v1, .ref c] hp none res
    refine Fx.run [(.ldc2_w 295, 3, 0, 0, .long 63), (.land, 1, 0, 0, .null), (.l2i, 1, 0, 0, .null), (.iload_n 3, 1, 3, 0, .null)] 122 (by decide +kernel) ?_
    show Fx q_TJ_makeOne 4 sh 122 [some (.ref c), some (.ref v1), none, some (.int v3), some (.int v4), none] [.int v3, .int (Int64.toInt32 (r7 &&& 63)), .ref v1, .ref c] hp none res
    replace hf := bnd hf
    obtain ⟨h9, hr8, hf⟩ := hf
    refine Fx.callV (rr := none) (hp1 := h9) [.ref v1, .int (Int64.toInt32 (r7 &&& 63)), .int v3] [] lk_8_297 (by decide +kernel) (t_TJ_joinSpan sh c (hS) hp v1 (hv1) (Int64.toInt32 (r7 &&& 63)) v3 h9 hr8) ⟨Nat.le_of_ble_eq_true rfl, Nat.le_of_ble_eq_true rfl⟩ (hS).1 (by decide) rfl (Nat.le_of_ble_eq_true rfl) ?_
    show Fx q_TJ_makeOne 4 sh 125 [some (.ref c), some (.ref v1), none, some (.int v3), some (.int v4), none] [] h9 none res
    refine Fx.run [(.iinc 4 1, 3, 4, 0, .int 1)] 128 (by decide +kernel) ?_
    show Fx q_TJ_makeOne 4 sh 128 [some (.ref c), some (.ref v1), none, some (.int v3), some (.int (v4 + 1)), none] [] h9 none res
    refine Fx.goto (-35) 93 (by decide +kernel) ?_
    obtain rfl := Option.some.inj hf
    have hk : Fx q_TJ_makeOne 4 sh 93 [some (.ref c), some (.ref v1), none, some (.int v3), some (.int (v4 + 1)), none] [] h9 none res := hk
    exact Fx.le hk (And.intro rfl (And.intro rfl (And.intro rfl (And.intro rfl trivial))))
set_option maxHeartbeats 4000000 in
set_option maxRecDepth 20000 in
theorem t_TJ_makeOne_l9 (sh : Shp) (c : Nat) (hS : S_TJ sh c) (hp : HP) (v1 : Nat) (hv1 : S_Ro sh v1) (v2 : Int32) (res : HP) : ∀ (s : (HP × Int32)) (t : HP), f_TJ_makeOne_l9 c hp v1 v2 s = some t → (fun v => v = res) t → P_TJ_makeOne_9 sh c v1 v2 res s := by
  refine loop_ind (P_TJ_makeOne_9 sh c v1 v2 res) (fun v => v = res) ?_
  intro s t hf hk
  obtain ⟨hp, v3⟩ := s
  replace hf : f_TJ_makeOne_b9 c hp v1 v2 v3 = some t := hf
  show Fx q_TJ_makeOne 4 sh 9 [some (.ref c), some (.ref v1), some (.int v2), some (.int v3), none, none] [] hp none res
  unfold f_TJ_makeOne_b9 at hf
  refine Fx.run [(.iload_n 3, 1, 3, 0, .null), (.aload_n 1, 1, 1, 0, .null), (.getfield 88, 3, 4, 5, .null)] 14 (by decide +kernel) ?_
  show isK sh v1 4 ∧ Fx q_TJ_makeOne 4 sh 14 [some (.ref c), some (.ref v1), some (.int v2), some (.int v3), none, none] [.int (hp.1 v1 5), .int v3] hp none res
  refine ⟨hv1.1, ?_⟩
  refine Fx.icmp_ge (61) 75 17 (by decide +kernel) (fun b3 => ?_) (fun b3 => ?_)
  · replace hf := ifp b3 hf
    replace hf := mpd hf
    obtain ⟨t, hf, rfl⟩ := hf
    refine Fx.run [(.aload_n 0, 1, 0, 0, .null), (.getfield 19, 3, 8, 2, .ref 32)] 79 (by decide +kernel) ?_
    show isK sh c 8 ∧ Fx q_TJ_makeOne 4 sh 79 [some (.ref c), some (.ref v1), some (.int v2), some (.int v3), none, none] [.ref (c + 32)] hp none res
    refine ⟨hS.1, ?_⟩
    replace hf := bnd hf
    obtain ⟨h5, hr4, hf⟩ := hf
    refine Fx.callV (rr := none) (hp1 := h5) [] [] lk_8_288 (by decide +kernel) (t_Co_sort sh (c + 32) (hS.2.2.1) hp h5 hr4) ⟨Nat.le_of_ble_eq_true rfl, Nat.le_of_ble_eq_true rfl⟩ (hS.2.2.1).1 (by decide) rfl (Nat.le_of_ble_eq_true rfl) ?_
    show Fx q_TJ_makeOne 4 sh 82 [some (.ref c), some (.ref v1), some (.int v2), some (.int v3), none, none] [] h5 none res
    refine Fx.run [(.aload_n 0, 1, 0, 0, .null), (.getfield 26, 3, 8, 3, .ref 34), (.getfield 211, 3, 3, 2, .null), (.istore_n 3, 1, 3, 0, .null), (.iconst 0, 1, 0, 0, .int 0), (.istore 4, 2, 4, 0, .null)] 93 (by decide +kernel) ?_
    show isK sh c 8 ∧ isK sh (c + 34) 3 ∧ Fx q_TJ_makeOne 4 sh 93 [some (.ref c), some (.ref v1), some (.int v2), some (.int (h5.1 (c + 34) 2)), some (.int 0), none] [] h5 none res
    refine ⟨hS.1, hS.2.2.2.1.1, ?_⟩
    have hl := t_TJ_makeOne_l93 sh c hS h5 v1 (hv1) (h5.1 (c + 34) 2) res (h5, 0) _ hf hk
    have hl : Fx q_TJ_makeOne 4 sh 93 [some (.ref c), some (.ref v1), none, some (.int (h5.1 (c + 34) 2)), some (.int 0), none] [] h5 none res := hl
    exact Fx.le hl (And.intro rfl (And.intro rfl (And.intro rfl (And.intro rfl trivial))))
  · replace hf := ifn b3 hf
    replace hf := gd hf
    obtain ⟨g10, hf⟩ := hf
    refine Fx.run [(.aload_n 1, 1, 1, 0, .null), (.getfield 102, 3, 4, 1, .ref 2), (.iload_n 3, 1, 3, 0, .null), (.iaload, 1, 40, 0, .null), (.iload_n 2, 1, 2, 0, .null)] 24 (by decide +kernel) ?_
    show isK sh v1 4 ∧ (isA sh (v1 + 2) 10 40 ∧ inb v3 40) ∧ Fx q_TJ_makeOne 4 sh 24 [some (.ref c), some (.ref v1), some (.int v2), some (.int v3), none, none] [.int v2, .int (hp.1 (v1 + 2) (ix v3))] hp none res
    refine ⟨hv1.1, ⟨hv1.2.2.1, g10⟩, ?_⟩
    refine Fx.icmp_ne (45) 69 27 (by decide +kernel) (fun b11 => ?_) (fun b11 => ?_)
    · replace hf := ifn b11 hf
      refine Fx.run [(.iinc 3 1, 3, 3, 0, .int 1)] 72 (by decide +kernel) ?_
      show Fx q_TJ_makeOne 4 sh 72 [some (.ref c), some (.ref v1), some (.int v2), some (.int (v3 + 1)), none, none] [] hp none res
      refine Fx.goto (-63) 9 (by decide +kernel) ?_
      obtain rfl := Option.some.inj hf
      have hk : Fx q_TJ_makeOne 4 sh 9 [some (.ref c), some (.ref v1), some (.int v2), some (.int (v3 + 1)), none, none] [] hp none res := hk
      exact Fx.le hk (And.intro rfl (And.intro rfl (And.intro rfl (And.intro rfl trivial))))
    · replace hf := ifp b11 hf
      replace hf := gd hf
      obtain ⟨g12, hf⟩ := hf
      refine Fx.run [(.aload_n 1, 1, 1, 0, .null), (.getfield 119, 3, 4, 4, .ref 5), (.iload_n 3, 1, 3, 0, .null), (.iaload, 1, 40, 0, .null), (.i2l, 1, 0, 0, .null), (.ldc2_w 281, 3, 0, 0, .long 2147483648), (.ladd, 1, 0, 0, .null), (.lstore 4, 2, 4, 0, .null), (.aload_n 0, 1, 0, 0, .null), (.getfield 19, 3, 8, 2, .ref 32), (.aload_n 1, 1, 1, 0, .null), (.iload_n 3, 1, 3, 0, .null)] 46 (by decide +kernel) ?_
      show isK sh v1 4 ∧ (isA sh (v1 + 5) 10 40 ∧ inb v3 40) ∧ isK sh c 8 ∧ Fx q_TJ_makeOne 4 sh 46 [some (.ref c), some (.ref v1), some (.int v2), some (.int v3), some (.long ((Int32.toInt64 (hp.1 (v1 + 5) (ix v3))) + 2147483648)), none] [.int v3, .ref v1, .ref (c + 32)] hp none res
      refine ⟨hv1.1, ⟨hv1.2.2.2.2.2, g12⟩, hS.1, ?_⟩
      replace hf := bnd hf
      obtain ⟨r13, hr13, hf⟩ := hf
      refine Fx.callV (rr := (some (.int r13))) (hp1 := hp) [.int v3] [.ref (c + 32)] lk_8_231 (by decide +kernel) (t_Ro_startPlace sh v1 (hv1) hp v3 r13 hr13) ⟨Nat.le_of_ble_eq_true rfl, Nat.le_of_ble_eq_true rfl⟩ (hv1).1 (by decide) rfl (Nat.le_of_ble_eq_true rfl) ?_
      show Fx q_TJ_makeOne 4 sh 49 [some (.ref c), some (.ref v1), some (.int v2), some (.int v3), some (.long ((Int32.toInt64 (hp.1 (v1 + 5) (ix v3))) + 2147483648)), none] [.int r13, .ref (c + 32)] hp none res
      refine Fx.run [(.ldc_w 283, 3, 0, 0, .int 2000000), (.iadd, 1, 0, 0, .null), (.i2l, 1, 0, 0, .null), (.bipush 38, 2, 0, 0, .int 38), (.lshl, 1, 0, 0, .null), (.lload 4, 2, 4, 0, .null), (.bipush 6, 2, 0, 0, .int 6), (.lshl, 1, 0, 0, .null), (.ladd, 1, 0, 0, .null), (.iload_n 3, 1, 3, 0, .null), (.i2l, 1, 0, 0, .null), (.ladd, 1, 0, 0, .null)] 66 (by decide +kernel) ?_
      show Fx q_TJ_makeOne 4 sh 66 [some (.ref c), some (.ref v1), some (.int v2), some (.int v3), some (.long ((Int32.toInt64 (hp.1 (v1 + 5) (ix v3))) + 2147483648)), none] [.long ((((Int32.toInt64 (r13 + 2000000)) <<< (Int32.toInt64 38 &&& 63)) + (((Int32.toInt64 (hp.1 (v1 + 5) (ix v3))) + 2147483648) <<< (Int32.toInt64 6 &&& 63))) + (Int32.toInt64 v3)), .ref (c + 32)] hp none res
      replace hf := bnd hf
      obtain ⟨h15, hr14, hf⟩ := hf
      refine Fx.callV (rr := none) (hp1 := h15) [.long ((((Int32.toInt64 (r13 + 2000000)) <<< (Int32.toInt64 38 &&& 63)) + (((Int32.toInt64 (hp.1 (v1 + 5) (ix v3))) + 2147483648) <<< (Int32.toInt64 6 &&& 63))) + (Int32.toInt64 v3))] [] lk_8_284 (by decide +kernel) (t_Co_put sh (c + 32) (hS.2.2.1) hp ((((Int32.toInt64 (r13 + 2000000)) <<< (Int32.toInt64 38 &&& 63)) + (((Int32.toInt64 (hp.1 (v1 + 5) (ix v3))) + 2147483648) <<< (Int32.toInt64 6 &&& 63))) + (Int32.toInt64 v3)) h15 hr14) ⟨Nat.le_of_ble_eq_true rfl, Nat.le_of_ble_eq_true rfl⟩ (hS.2.2.1).1 (by decide) rfl (Nat.le_of_ble_eq_true rfl) ?_
      show Fx q_TJ_makeOne 4 sh 69 [some (.ref c), some (.ref v1), some (.int v2), some (.int v3), some (.long ((Int32.toInt64 (hp.1 (v1 + 5) (ix v3))) + 2147483648)), none] [] h15 none res
      refine Fx.run [(.iinc 3 1, 3, 3, 0, .int 1)] 72 (by decide +kernel) ?_
      show Fx q_TJ_makeOne 4 sh 72 [some (.ref c), some (.ref v1), some (.int v2), some (.int (v3 + 1)), some (.long ((Int32.toInt64 (hp.1 (v1 + 5) (ix v3))) + 2147483648)), none] [] h15 none res
      refine Fx.goto (-63) 9 (by decide +kernel) ?_
      obtain rfl := Option.some.inj hf
      have hk : Fx q_TJ_makeOne 4 sh 9 [some (.ref c), some (.ref v1), some (.int v2), some (.int (v3 + 1)), none, none] [] h15 none res := hk
      exact Fx.le hk (And.intro rfl (And.intro rfl (And.intro rfl (And.intro rfl trivial))))
set_option maxHeartbeats 4000000 in
set_option maxRecDepth 20000 in
theorem t_TJ_makeOne (sh : Shp) (c : Nat) (hS : S_TJ sh c) (hp : HP) (v1 : Nat) (hv1 : S_Ro sh v1) (v2 : Int32) (res : HP) (hf : f_TJ_makeOne c hp v1 v2 = some res) : Ex 4 q_TJ_makeOne sh [.ref c, .ref v1, .int v2] hp none res := by
  refine Ex.of [some (.ref c), some (.ref v1), some (.int v2), none, none, none] rfl (Nat.le_of_ble_eq_true rfl) (by decide +kernel) rfl ?_
  obtain ⟨t, hk⟩ : ∃ t, t = res := ⟨res, rfl⟩
  rw [← hk] at hf
  unfold f_TJ_makeOne at hf
  refine Fx.run [(.aload_n 0, 1, 0, 0, .null), (.getfield 19, 3, 8, 2, .ref 32)] 4 (by decide +kernel) ?_
  show isK sh c 8 ∧ Fx q_TJ_makeOne 4 sh 4 [some (.ref c), some (.ref v1), some (.int v2), none, none, none] [.ref (c + 32)] hp none res
  refine ⟨hS.1, ?_⟩
  replace hf := bnd hf
  obtain ⟨h2, hr1, hf⟩ := hf
  refine Fx.callV (rr := none) (hp1 := h2) [] [] lk_8_280 (by decide +kernel) (t_Co_empty sh (c + 32) (hS.2.2.1) hp h2 hr1) ⟨Nat.le_of_ble_eq_true rfl, Nat.le_of_ble_eq_true rfl⟩ (hS.2.2.1).1 (by decide) rfl (Nat.le_of_ble_eq_true rfl) ?_
  show Fx q_TJ_makeOne 4 sh 7 [some (.ref c), some (.ref v1), some (.int v2), none, none, none] [] h2 none res
  refine Fx.run [(.iconst 0, 1, 0, 0, .int 0), (.istore_n 3, 1, 3, 0, .null)] 9 (by decide +kernel) ?_
  show Fx q_TJ_makeOne 4 sh 9 [some (.ref c), some (.ref v1), some (.int v2), some (.int 0), none, none] [] h2 none res
  have hl := t_TJ_makeOne_l9 sh c hS h2 v1 (hv1) v2 res (h2, 0) _ hf hk
  have hl : Fx q_TJ_makeOne 4 sh 9 [some (.ref c), some (.ref v1), some (.int v2), some (.int 0), none, none] [] h2 none res := hl
  exact Fx.le hl (And.intro rfl (And.intro rfl (And.intro rfl (And.intro rfl trivial))))
abbrev P_TJ_one_30 (sh : Shp) (c : Nat) (v2 : Int32) (v3 : Int32) (v4 : Nat) (res : (HP × Int32)) : (HP × Int32) → Prop := fun s => Fx q_TJ_one 5 sh 30 [some (.ref c), none, some (.int v2), some (.int v3), some (.ref v4), some (.int s.2)] [] s.1 (some (.int res.2)) res.1
set_option maxHeartbeats 4000000 in
set_option maxRecDepth 20000 in
theorem t_TJ_one_l30 (sh : Shp) (c : Nat) (hS : S_TJ sh c) (hp : HP) (v2 : Int32) (v3 : Int32) (v4 : Nat) (hv4 : S_Ro sh v4) (res : (HP × Int32)) : ∀ (s : (HP × Int32)) (t : (HP × Int32)), f_TJ_one_l30 c hp v2 v3 v4 s = some t → (fun v => v = res) t → P_TJ_one_30 sh c v2 v3 v4 res s := by
  refine loop_ind (P_TJ_one_30 sh c v2 v3 v4 res) (fun v => v = res) ?_
  intro s t hf hk
  obtain ⟨hp, v5⟩ := s
  replace hf : f_TJ_one_b30 c hp v2 v3 v4 v5 = some t := hf
  show Fx q_TJ_one 5 sh 30 [some (.ref c), none, some (.int v2), some (.int v3), some (.ref v4), some (.int v5)] [] hp (some (.int res.2)) res.1
  unfold f_TJ_one_b30 at hf
  refine Fx.run [(.iload 5, 2, 5, 0, .null), (.bipush 10, 2, 0, 0, .int 10)] 34 (by decide +kernel) ?_
  show Fx q_TJ_one 5 sh 34 [some (.ref c), none, some (.int v2), some (.int v3), some (.ref v4), some (.int v5)] [.int 10, .int v5] hp (some (.int res.2)) res.1
  refine Fx.icmp_ge (17) 51 37 (by decide +kernel) (fun b6 => ?_) (fun b6 => ?_)
  · replace hf := ifp b6 hf
    replace hf := mpd hf
    obtain ⟨t, hf, rfl⟩ := hf
    refine Fx.run [(.iload_n 2, 1, 2, 0, .null), (.iconst (-1), 1, 0, 0, .int (-1))] 53 (by decide +kernel) ?_
    show Fx q_TJ_one 5 sh 53 [some (.ref c), none, some (.int v2), some (.int v3), some (.ref v4), some (.int v5)] [.int (-1), .int v2] hp (some (.int res.2)) res.1
    refine Fx.icmp_ne (13) 66 56 (by decide +kernel) (fun b7 => ?_) (fun b7 => ?_)
    · replace hf := ifn b7 hf
      refine Fx.run [(.aload_n 0, 1, 0, 0, .null), (.getfield 26, 3, 8, 3, .ref 34), (.iload_n 2, 1, 2, 0, .null), (.iload_n 3, 1, 3, 0, .null), (.iconst 5, 1, 0, 0, .int 5)] 73 (by decide +kernel) ?_
      show isK sh c 8 ∧ Fx q_TJ_one 5 sh 73 [some (.ref c), none, some (.int v2), some (.int v3), some (.ref v4), some (.int v5)] [.int 5, .int v3, .int v2, .ref (c + 34)] hp (some (.int res.2)) res.1
      refine ⟨hS.1, ?_⟩
      replace hf := bnd hf
      obtain ⟨r8, hr8, hf⟩ := hf
      refine Fx.callV (rr := (some (.int r8))) (hp1 := hp) [.int v2, .int v3, .int 5] [] lk_8_221 (by decide +kernel) (t_Pa_answer sh (c + 34) (hS.2.2.2.1) hp v2 v3 5 r8 hr8) ⟨Nat.le_of_ble_eq_true rfl, Nat.le_of_ble_eq_true rfl⟩ (hS.2.2.2.1).1 (by decide) rfl (Nat.le_of_ble_eq_true rfl) ?_
      show Fx q_TJ_one 5 sh 76 [some (.ref c), none, some (.int v2), some (.int v3), some (.ref v4), some (.int v5)] [.int r8] hp (some (.int res.2)) res.1
      obtain rfl := Option.some.inj hf
      have hk : (hp, r8) = res := hk
      subst hk
      exact Fx.iret (by decide +kernel) rfl
    · replace hf := ifp b7 hf
      refine Fx.run [(.aload_n 0, 1, 0, 0, .null), (.getfield 26, 3, 8, 3, .ref 34), (.getfield 211, 3, 3, 2, .null)] 63 (by decide +kernel) ?_
      show isK sh c 8 ∧ isK sh (c + 34) 3 ∧ Fx q_TJ_one 5 sh 63 [some (.ref c), none, some (.int v2), some (.int v3), some (.ref v4), some (.int v5)] [.int (hp.1 (c + 34) 2)] hp (some (.int res.2)) res.1
      refine ⟨hS.1, hS.2.2.2.1.1, ?_⟩
      refine Fx.goto (13) 76 (by decide +kernel) ?_
      obtain rfl := Option.some.inj hf
      have hk : (hp, (hp.1 (c + 34) 2)) = res := hk
      subst hk
      exact Fx.iret (by decide +kernel) rfl
  · replace hf := ifn b6 hf
    refine Fx.run [(.aload_n 0, 1, 0, 0, .null), (.aload 4, 2, 4, 0, .null), (.iload 5, 2, 5, 0, .null)] 42 (by decide +kernel) ?_
    show Fx q_TJ_one 5 sh 42 [some (.ref c), none, some (.int v2), some (.int v3), some (.ref v4), some (.int v5)] [.int v5, .ref v4, .ref c] hp (some (.int res.2)) res.1
    replace hf := bnd hf
    obtain ⟨h10, hr9, hf⟩ := hf
    refine Fx.callV (rr := none) (hp1 := h10) [.ref v4, .int v5] [] lk_8_276 (by decide +kernel) (t_TJ_makeOne sh c (hS) hp v4 (hv4) v5 h10 hr9) ⟨Nat.le_of_ble_eq_true rfl, Nat.le_of_ble_eq_true rfl⟩ (hS).1 (by decide) rfl (Nat.le_of_ble_eq_true rfl) ?_
    show Fx q_TJ_one 5 sh 45 [some (.ref c), none, some (.int v2), some (.int v3), some (.ref v4), some (.int v5)] [] h10 (some (.int res.2)) res.1
    refine Fx.run [(.iinc 5 1, 3, 5, 0, .int 1)] 48 (by decide +kernel) ?_
    show Fx q_TJ_one 5 sh 48 [some (.ref c), none, some (.int v2), some (.int v3), some (.ref v4), some (.int (v5 + 1))] [] h10 (some (.int res.2)) res.1
    refine Fx.goto (-18) 30 (by decide +kernel) ?_
    obtain rfl := Option.some.inj hf
    have hk : Fx q_TJ_one 5 sh 30 [some (.ref c), none, some (.int v2), some (.int v3), some (.ref v4), some (.int (v5 + 1))] [] h10 (some (.int res.2)) res.1 := hk
    exact Fx.le hk (And.intro rfl (And.intro rfl (And.intro rfl (And.intro rfl (And.intro rfl trivial)))))
set_option maxHeartbeats 4000000 in
set_option maxRecDepth 20000 in
theorem t_TJ_one (sh : Shp) (c : Nat) (hS : S_TJ sh c) (hp : HP) (v1 : Int32) (v2 : Int32) (v3 : Int32) (res : (HP × Int32)) (hf : f_TJ_one c hp v1 v2 v3 = some res) : Ex 5 q_TJ_one sh [.ref c, .int v1, .int v2, .int v3] hp (some (.int res.2)) res.1 := by
  refine Ex.of [some (.ref c), some (.int v1), some (.int v2), some (.int v3), none, none] rfl (Nat.le_of_ble_eq_true rfl) (by decide +kernel) rfl ?_
  obtain ⟨t, hk⟩ : ∃ t, t = res := ⟨res, rfl⟩
  rw [← hk] at hf
  unfold f_TJ_one at hf
  refine Fx.run [(.iload_n 1, 1, 1, 0, .null)] 1 (by decide +kernel) ?_
  show Fx q_TJ_one 5 sh 1 [some (.ref c), some (.int v1), some (.int v2), some (.int v3), none, none] [.int v1] hp (some (.int res.2)) res.1
  replace hf := bnd hf
  obtain ⟨r1, hr1, hf⟩ := hf
  refine Fx.callS (rr := (some (.int r1))) (hp1 := hp) [.int v1] [] lk_8_91 (by decide +kernel) (t_TJ_isSide sh hp v1 r1 hr1) ⟨Nat.le_of_ble_eq_true rfl, Nat.le_of_ble_eq_true rfl⟩ rfl (Nat.le_of_ble_eq_true rfl) ?_
  show Fx q_TJ_one 5 sh 4 [some (.ref c), some (.int v1), some (.int v2), some (.int v3), none, none] [.int r1] hp (some (.int res.2)) res.1
  refine Fx.if_ne (6) 10 7 (by decide +kernel) (fun b2 => ?_) (fun b2 => ?_)
  · replace hf := ifn b2 hf
    refine Fx.run [(.aload_n 0, 1, 0, 0, .null), (.getfield 26, 3, 8, 3, .ref 34)] 14 (by decide +kernel) ?_
    show isK sh c 8 ∧ Fx q_TJ_one 5 sh 14 [some (.ref c), some (.int v1), some (.int v2), some (.int v3), none, none] [.ref (c + 34)] hp (some (.int res.2)) res.1
    refine ⟨hS.1, ?_⟩
    replace hf := bnd hf
    obtain ⟨h4, hr3, hf⟩ := hf
    refine Fx.callV (rr := none) (hp1 := h4) [] [] lk_8_273 (by decide +kernel) (t_Pa_empty sh (c + 34) (hS.2.2.2.1) hp h4 hr3) ⟨Nat.le_of_ble_eq_true rfl, Nat.le_of_ble_eq_true rfl⟩ (hS.2.2.2.1).1 (by decide) rfl (Nat.le_of_ble_eq_true rfl) ?_
    show Fx q_TJ_one 5 sh 17 [some (.ref c), some (.int v1), some (.int v2), some (.int v3), none, none] [] h4 (some (.int res.2)) res.1
    refine Fx.run [(.aload_n 0, 1, 0, 0, .null), (.getfield 12, 3, 8, 0, .ref 1), (.iload_n 1, 1, 1, 0, .null)] 22 (by decide +kernel) ?_
    show isK sh c 8 ∧ Fx q_TJ_one 5 sh 22 [some (.ref c), some (.int v1), some (.int v2), some (.int v3), none, none] [.int v1, .ref (c + 1)] h4 (some (.int res.2)) res.1
    refine ⟨hS.1, ?_⟩
    replace hf := bnd hf
    obtain ⟨r5, hr5, hf⟩ := hf
    refine Fx.callV (rr := (some (.ref r5))) (hp1 := h4) [.int v1] [] lk_8_95 (by decide +kernel) (t_St_rowsOf sh (c + 1) (hS.2.1) h4 v1 r5 hr5) ⟨Nat.le_of_ble_eq_true rfl, Nat.le_of_ble_eq_true rfl⟩ (hS.2.1).1 (by decide) rfl (Nat.le_of_ble_eq_true rfl) ?_
    show Fx q_TJ_one 5 sh 25 [some (.ref c), some (.int v1), some (.int v2), some (.int v3), none, none] [.ref r5] h4 (some (.int res.2)) res.1
    refine Fx.run [(.astore 4, 2, 4, 0, .null), (.iconst 0, 1, 0, 0, .int 0), (.istore 5, 2, 5, 0, .null)] 30 (by decide +kernel) ?_
    show Fx q_TJ_one 5 sh 30 [some (.ref c), some (.int v1), some (.int v2), some (.int v3), some (.ref r5), some (.int 0)] [] h4 (some (.int res.2)) res.1
    have hl := t_TJ_one_l30 sh c hS h4 v2 v3 r5 ((rowsOf_S hS.2.1 hr5)) res (h4, 0) _ hf hk
    have hl : Fx q_TJ_one 5 sh 30 [some (.ref c), none, some (.int v2), some (.int v3), some (.ref r5), some (.int 0)] [] h4 (some (.int res.2)) res.1 := hl
    exact Fx.le hl (And.intro rfl (And.intro rfl (And.intro rfl (And.intro rfl (And.intro rfl trivial)))))
  · replace hf := ifp b2 hf
    refine Fx.run [(.ldc 123, 2, 0, 0, .int (-10000000))] 9 (by decide +kernel) ?_
    show Fx q_TJ_one 5 sh 9 [some (.ref c), some (.int v1), some (.int v2), some (.int v3), none, none] [.int (-10000000)] hp (some (.int res.2)) res.1
    obtain rfl := Option.some.inj hf
    have hk : (hp, (-10000000)) = res := hk
    subst hk
    exact Fx.iret (by decide +kernel) rfl
abbrev P_Ro_putEnds_2 (sh : Shp) (c : Nat) (v1 : Int32) (v2 : Nat) (res : HP) : (HP × Int32) → Prop := fun s => Fx q_Ro_putEnds 3 sh 2 [some (.ref c), some (.int v1), some (.ref v2), some (.int s.2)] [] s.1 none res
set_option maxHeartbeats 4000000 in
set_option maxRecDepth 20000 in
theorem t_Ro_putEnds_l2 (sh : Shp) (c : Nat) (hS : S_Ro sh c) (hp : HP) (v1 : Int32) (v2 : Nat) (hv2 : S_Co sh v2) (res : HP) : ∀ (s : (HP × Int32)) (t : HP), f_Ro_putEnds_l2 c hp v1 v2 s = some t → (fun v => v = res) t → P_Ro_putEnds_2 sh c v1 v2 res s := by
  refine loop_ind (P_Ro_putEnds_2 sh c v1 v2 res) (fun v => v = res) ?_
  intro s t hf hk
  obtain ⟨hp, v3⟩ := s
  replace hf : f_Ro_putEnds_b2 c hp v1 v2 v3 = some t := hf
  show Fx q_Ro_putEnds 3 sh 2 [some (.ref c), some (.int v1), some (.ref v2), some (.int v3)] [] hp none res
  unfold f_Ro_putEnds_b2 at hf
  refine Fx.run [(.iload_n 3, 1, 3, 0, .null), (.aload_n 0, 1, 0, 0, .null), (.getfield 27, 3, 4, 5, .null)] 7 (by decide +kernel) ?_
  show isK sh c 4 ∧ Fx q_Ro_putEnds 3 sh 7 [some (.ref c), some (.int v1), some (.ref v2), some (.int v3)] [.int (hp.1 c 5), .int v3] hp none res
  refine ⟨hS.1, ?_⟩
  refine Fx.icmp_ge (39) 46 10 (by decide +kernel) (fun b1 => ?_) (fun b1 => ?_)
  · replace hf := ifp b1 hf
    replace hf := mpd hf
    obtain ⟨t, hf, rfl⟩ := hf
    obtain rfl := Option.some.inj hf
    have hk : hp = res := hk
    subst hk
    exact Fx.vret (by decide +kernel) rfl
  · replace hf := ifn b1 hf
    replace hf := gd hf
    obtain ⟨g2, hf⟩ := hf
    refine Fx.run [(.aload_n 0, 1, 0, 0, .null), (.getfield 15, 3, 4, 1, .ref 2), (.iload_n 3, 1, 3, 0, .null), (.iaload, 1, 40, 0, .null), (.iload_n 1, 1, 1, 0, .null)] 17 (by decide +kernel) ?_
    show isK sh c 4 ∧ (isA sh (c + 2) 10 40 ∧ inb v3 40) ∧ Fx q_Ro_putEnds 3 sh 17 [some (.ref c), some (.int v1), some (.ref v2), some (.int v3)] [.int v1, .int (hp.1 (c + 2) (ix v3))] hp none res
    refine ⟨hS.1, ⟨hS.2.2.1, g2⟩, ?_⟩
    refine Fx.icmp_ne (23) 40 20 (by decide +kernel) (fun b3 => ?_) (fun b3 => ?_)
    · replace hf := ifn b3 hf
      refine Fx.run [(.iinc 3 1, 3, 3, 0, .int 1)] 43 (by decide +kernel) ?_
      show Fx q_Ro_putEnds 3 sh 43 [some (.ref c), some (.int v1), some (.ref v2), some (.int (v3 + 1))] [] hp none res
      refine Fx.goto (-41) 2 (by decide +kernel) ?_
      obtain rfl := Option.some.inj hf
      have hk : Fx q_Ro_putEnds 3 sh 2 [some (.ref c), some (.int v1), some (.ref v2), some (.int (v3 + 1))] [] hp none res := hk
      exact Fx.le hk (And.intro rfl (And.intro rfl (And.intro rfl (And.intro rfl trivial))))
    · replace hf := ifp b3 hf
      refine Fx.run [(.aload_n 2, 1, 2, 0, .null), (.aload_n 0, 1, 0, 0, .null), (.iload_n 3, 1, 3, 0, .null)] 23 (by decide +kernel) ?_
      show Fx q_Ro_putEnds 3 sh 23 [some (.ref c), some (.int v1), some (.ref v2), some (.int v3)] [.int v3, .ref c, .ref v2] hp none res
      replace hf := bnd hf
      obtain ⟨r4, hr4, hf⟩ := hf
      refine Fx.callV (rr := (some (.int r4))) (hp1 := hp) [.int v3] [.ref v2] lk_4_54 (by decide +kernel) (t_Ro_startPlace sh c (hS) hp v3 r4 hr4) ⟨Nat.le_of_ble_eq_true rfl, Nat.le_of_ble_eq_true rfl⟩ (hS).1 (by decide) rfl (Nat.le_of_ble_eq_true rfl) ?_
      show Fx q_Ro_putEnds 3 sh 26 [some (.ref c), some (.int v1), some (.ref v2), some (.int v3)] [.int r4, .ref v2] hp none res
      refine Fx.run [(.i2l, 1, 0, 0, .null)] 27 (by decide +kernel) ?_
      show Fx q_Ro_putEnds 3 sh 27 [some (.ref c), some (.int v1), some (.ref v2), some (.int v3)] [.long (Int32.toInt64 r4), .ref v2] hp none res
      replace hf := bnd hf
      obtain ⟨h6, hr5, hf⟩ := hf
      refine Fx.callV (rr := none) (hp1 := h6) [.long (Int32.toInt64 r4)] [] lk_4_64 (by decide +kernel) (t_Co_put sh v2 (hv2) hp (Int32.toInt64 r4) h6 hr5) ⟨Nat.le_of_ble_eq_true rfl, Nat.le_of_ble_eq_true rfl⟩ (hv2).1 (by decide) rfl (Nat.le_of_ble_eq_true rfl) ?_
      show Fx q_Ro_putEnds 3 sh 30 [some (.ref c), some (.int v1), some (.ref v2), some (.int v3)] [] h6 none res
      refine Fx.run [(.aload_n 2, 1, 2, 0, .null), (.aload_n 0, 1, 0, 0, .null), (.iload_n 3, 1, 3, 0, .null)] 33 (by decide +kernel) ?_
      show Fx q_Ro_putEnds 3 sh 33 [some (.ref c), some (.int v1), some (.ref v2), some (.int v3)] [.int v3, .ref c, .ref v2] h6 none res
      replace hf := bnd hf
      obtain ⟨r7, hr7, hf⟩ := hf
      refine Fx.callV (rr := (some (.int r7))) (hp1 := h6) [.int v3] [.ref v2] lk_4_57 (by decide +kernel) (t_Ro_endPlace sh c (hS) h6 v3 r7 hr7) ⟨Nat.le_of_ble_eq_true rfl, Nat.le_of_ble_eq_true rfl⟩ (hS).1 (by decide) rfl (Nat.le_of_ble_eq_true rfl) ?_
      show Fx q_Ro_putEnds 3 sh 36 [some (.ref c), some (.int v1), some (.ref v2), some (.int v3)] [.int r7, .ref v2] h6 none res
      refine Fx.run [(.i2l, 1, 0, 0, .null)] 37 (by decide +kernel) ?_
      show Fx q_Ro_putEnds 3 sh 37 [some (.ref c), some (.int v1), some (.ref v2), some (.int v3)] [.long (Int32.toInt64 r7), .ref v2] h6 none res
      replace hf := bnd hf
      obtain ⟨h9, hr8, hf⟩ := hf
      refine Fx.callV (rr := none) (hp1 := h9) [.long (Int32.toInt64 r7)] [] lk_4_64 (by decide +kernel) (t_Co_put sh v2 (hv2) h6 (Int32.toInt64 r7) h9 hr8) ⟨Nat.le_of_ble_eq_true rfl, Nat.le_of_ble_eq_true rfl⟩ (hv2).1 (by decide) rfl (Nat.le_of_ble_eq_true rfl) ?_
      show Fx q_Ro_putEnds 3 sh 40 [some (.ref c), some (.int v1), some (.ref v2), some (.int v3)] [] h9 none res
      refine Fx.run [(.iinc 3 1, 3, 3, 0, .int 1)] 43 (by decide +kernel) ?_
      show Fx q_Ro_putEnds 3 sh 43 [some (.ref c), some (.int v1), some (.ref v2), some (.int (v3 + 1))] [] h9 none res
      refine Fx.goto (-41) 2 (by decide +kernel) ?_
      obtain rfl := Option.some.inj hf
      have hk : Fx q_Ro_putEnds 3 sh 2 [some (.ref c), some (.int v1), some (.ref v2), some (.int (v3 + 1))] [] h9 none res := hk
      exact Fx.le hk (And.intro rfl (And.intro rfl (And.intro rfl (And.intro rfl trivial))))
set_option maxHeartbeats 4000000 in
set_option maxRecDepth 20000 in
theorem t_Ro_putEnds (sh : Shp) (c : Nat) (hS : S_Ro sh c) (hp : HP) (v1 : Int32) (v2 : Nat) (hv2 : S_Co sh v2) (res : HP) (hf : f_Ro_putEnds c hp v1 v2 = some res) : Ex 3 q_Ro_putEnds sh [.ref c, .int v1, .ref v2] hp none res := by
  refine Ex.of [some (.ref c), some (.int v1), some (.ref v2), none] rfl (Nat.le_of_ble_eq_true rfl) (by decide +kernel) rfl ?_
  obtain ⟨t, hk⟩ : ∃ t, t = res := ⟨res, rfl⟩
  rw [← hk] at hf
  unfold f_Ro_putEnds at hf
  refine Fx.run [(.iconst 0, 1, 0, 0, .int 0), (.istore_n 3, 1, 3, 0, .null)] 2 (by decide +kernel) ?_
  show Fx q_Ro_putEnds 3 sh 2 [some (.ref c), some (.int v1), some (.ref v2), some (.int 0)] [] hp none res
  have hl := t_Ro_putEnds_l2 sh c hS hp v1 v2 (hv2) res (hp, 0) _ hf hk
  have hl : Fx q_Ro_putEnds 3 sh 2 [some (.ref c), some (.int v1), some (.ref v2), some (.int 0)] [] hp none res := hl
  exact Fx.le hl (And.intro rfl (And.intro rfl (And.intro rfl (And.intro rfl trivial))))
abbrev P_Ro_valuesThere_5 (sh : Shp) (c : Nat) (hp : HP) (v1 : Int32) (v2 : Int32) (res : Int32) : (Int32 × Int32) → Prop := fun s => Fx q_Ro_valuesThere 4 sh 5 [some (.ref c), some (.int v1), some (.int v2), some (.int s.1), some (.int s.2)] [] hp (some (.int res)) hp
set_option maxHeartbeats 4000000 in
set_option maxRecDepth 20000 in
theorem t_Ro_valuesThere_l5 (sh : Shp) (c : Nat) (hS : S_Ro sh c) (hp : HP) (v1 : Int32) (v2 : Int32) (res : Int32) : ∀ (s : (Int32 × Int32)) (t : Int32), f_Ro_valuesThere_l5 c hp v1 v2 s = some t → (fun v => v = res) t → P_Ro_valuesThere_5 sh c hp v1 v2 res s := by
  refine loop_ind (P_Ro_valuesThere_5 sh c hp v1 v2 res) (fun v => v = res) ?_
  intro s t hf hk
  obtain ⟨v3, v4⟩ := s
  replace hf : f_Ro_valuesThere_b5 c hp v1 v2 v3 v4 = some t := hf
  show Fx q_Ro_valuesThere 4 sh 5 [some (.ref c), some (.int v1), some (.int v2), some (.int v3), some (.int v4)] [] hp (some (.int res)) hp
  unfold f_Ro_valuesThere_b5 at hf
  refine Fx.run [(.iload 4, 2, 4, 0, .null), (.aload_n 0, 1, 0, 0, .null), (.getfield 27, 3, 4, 5, .null)] 11 (by decide +kernel) ?_
  show isK sh c 4 ∧ Fx q_Ro_valuesThere 4 sh 11 [some (.ref c), some (.int v1), some (.int v2), some (.int v3), some (.int v4)] [.int (hp.1 c 5), .int v4] hp (some (.int res)) hp
  refine ⟨hS.1, ?_⟩
  refine Fx.icmp_ge (40) 51 14 (by decide +kernel) (fun b1 => ?_) (fun b1 => ?_)
  · replace hf := ifp b1 hf
    replace hf := mpd hf
    obtain ⟨t, hf, rfl⟩ := hf
    refine Fx.run [(.iload_n 3, 1, 3, 0, .null)] 52 (by decide +kernel) ?_
    show Fx q_Ro_valuesThere 4 sh 52 [some (.ref c), some (.int v1), some (.int v2), some (.int v3), some (.int v4)] [.int v3] hp (some (.int res)) hp
    obtain rfl := Option.some.inj hf
    have hk : v3 = res := hk
    subst hk
    exact Fx.iret (by decide +kernel) rfl
  · replace hf := ifn b1 hf
    replace hf := gd hf
    obtain ⟨g2, hf⟩ := hf
    refine Fx.run [(.aload_n 0, 1, 0, 0, .null), (.getfield 15, 3, 4, 1, .ref 2), (.iload 4, 2, 4, 0, .null), (.iaload, 1, 40, 0, .null), (.iload_n 1, 1, 1, 0, .null)] 22 (by decide +kernel) ?_
    show isK sh c 4 ∧ (isA sh (c + 2) 10 40 ∧ inb v4 40) ∧ Fx q_Ro_valuesThere 4 sh 22 [some (.ref c), some (.int v1), some (.int v2), some (.int v3), some (.int v4)] [.int v1, .int (hp.1 (c + 2) (ix v4))] hp (some (.int res)) hp
    refine ⟨hS.1, ⟨hS.2.2.1, g2⟩, ?_⟩
    refine Fx.icmp_ne (23) 45 25 (by decide +kernel) (fun b3 => ?_) (fun b3 => ?_)
    · replace hf := ifn b3 hf
      refine Fx.run [(.iinc 4 1, 3, 4, 0, .int 1)] 48 (by decide +kernel) ?_
      show Fx q_Ro_valuesThere 4 sh 48 [some (.ref c), some (.int v1), some (.int v2), some (.int v3), some (.int (v4 + 1))] [] hp (some (.int res)) hp
      refine Fx.goto (-43) 5 (by decide +kernel) ?_
      obtain rfl := Option.some.inj hf
      have hk : Fx q_Ro_valuesThere 4 sh 5 [some (.ref c), some (.int v1), some (.int v2), some (.int v3), some (.int (v4 + 1))] [] hp (some (.int res)) hp := hk
      exact Fx.le hk (And.intro rfl (And.intro rfl (And.intro rfl (And.intro rfl (And.intro rfl trivial)))))
    · replace hf := ifp b3 hf
      refine Fx.run [(.aload_n 0, 1, 0, 0, .null), (.iload 4, 2, 4, 0, .null), (.iload_n 2, 1, 2, 0, .null)] 29 (by decide +kernel) ?_
      show Fx q_Ro_valuesThere 4 sh 29 [some (.ref c), some (.int v1), some (.int v2), some (.int v3), some (.int v4)] [.int v2, .int v4, .ref c] hp (some (.int res)) hp
      replace hf := bnd hf
      obtain ⟨r4, hr4, hf⟩ := hf
      refine Fx.callV (rr := (some (.int r4))) (hp1 := hp) [.int v4, .int v2] [] lk_4_60 (by decide +kernel) (t_Ro_isThere sh c (hS) hp v4 v2 r4 hr4) ⟨Nat.le_of_ble_eq_true rfl, Nat.le_of_ble_eq_true rfl⟩ (hS).1 (by decide) rfl (Nat.le_of_ble_eq_true rfl) ?_
      show Fx q_Ro_valuesThere 4 sh 32 [some (.ref c), some (.int v1), some (.int v2), some (.int v3), some (.int v4)] [.int r4] hp (some (.int res)) hp
      refine Fx.if_eq (13) 45 35 (by decide +kernel) (fun b5 => ?_) (fun b5 => ?_)
      · replace hf := ifp b5 hf
        refine Fx.run [(.iinc 4 1, 3, 4, 0, .int 1)] 48 (by decide +kernel) ?_
        show Fx q_Ro_valuesThere 4 sh 48 [some (.ref c), some (.int v1), some (.int v2), some (.int v3), some (.int (v4 + 1))] [] hp (some (.int res)) hp
        refine Fx.goto (-43) 5 (by decide +kernel) ?_
        obtain rfl := Option.some.inj hf
        have hk : Fx q_Ro_valuesThere 4 sh 5 [some (.ref c), some (.int v1), some (.int v2), some (.int v3), some (.int (v4 + 1))] [] hp (some (.int res)) hp := hk
        exact Fx.le hk (And.intro rfl (And.intro rfl (And.intro rfl (And.intro rfl (And.intro rfl trivial)))))
      · replace hf := ifn b5 hf
        replace hf := gd hf
        obtain ⟨g6, hf⟩ := hf
        refine Fx.run [(.iload_n 3, 1, 3, 0, .null), (.aload_n 0, 1, 0, 0, .null), (.getfield 24, 3, 4, 4, .ref 5), (.iload 4, 2, 4, 0, .null), (.iaload, 1, 40, 0, .null), (.iadd, 1, 0, 0, .null), (.istore_n 3, 1, 3, 0, .null), (.iinc 4 1, 3, 4, 0, .int 1)] 48 (by decide +kernel) ?_
        show isK sh c 4 ∧ (isA sh (c + 5) 10 40 ∧ inb v4 40) ∧ Fx q_Ro_valuesThere 4 sh 48 [some (.ref c), some (.int v1), some (.int v2), some (.int (v3 + (hp.1 (c + 5) (ix v4)))), some (.int (v4 + 1))] [] hp (some (.int res)) hp
        refine ⟨hS.1, ⟨hS.2.2.2.2.2, g6⟩, ?_⟩
        refine Fx.goto (-43) 5 (by decide +kernel) ?_
        obtain rfl := Option.some.inj hf
        have hk : Fx q_Ro_valuesThere 4 sh 5 [some (.ref c), some (.int v1), some (.int v2), some (.int (v3 + (hp.1 (c + 5) (ix v4)))), some (.int (v4 + 1))] [] hp (some (.int res)) hp := hk
        exact Fx.le hk (And.intro rfl (And.intro rfl (And.intro rfl (And.intro rfl (And.intro rfl trivial)))))
set_option maxHeartbeats 4000000 in
set_option maxRecDepth 20000 in
theorem t_Ro_valuesThere (sh : Shp) (c : Nat) (hS : S_Ro sh c) (hp : HP) (v1 : Int32) (v2 : Int32) (res : Int32) (hf : f_Ro_valuesThere c hp v1 v2 = some res) : Ex 4 q_Ro_valuesThere sh [.ref c, .int v1, .int v2] hp (some (.int res)) hp := by
  refine Ex.of [some (.ref c), some (.int v1), some (.int v2), none, none] rfl (Nat.le_of_ble_eq_true rfl) (by decide +kernel) rfl ?_
  obtain ⟨t, hk⟩ : ∃ t, t = res := ⟨res, rfl⟩
  rw [← hk] at hf
  unfold f_Ro_valuesThere at hf
  refine Fx.run [(.iconst 0, 1, 0, 0, .int 0), (.istore_n 3, 1, 3, 0, .null), (.iconst 0, 1, 0, 0, .int 0), (.istore 4, 2, 4, 0, .null)] 5 (by decide +kernel) ?_
  show Fx q_Ro_valuesThere 4 sh 5 [some (.ref c), some (.int v1), some (.int v2), some (.int 0), some (.int 0)] [] hp (some (.int res)) hp
  have hl := t_Ro_valuesThere_l5 sh c hS hp v1 v2 res (0, 0) _ hf hk
  have hl : Fx q_Ro_valuesThere 4 sh 5 [some (.ref c), some (.int v1), some (.int v2), some (.int 0), some (.int 0)] [] hp (some (.int res)) hp := hl
  exact Fx.le hl (And.intro rfl (And.intro rfl (And.intro rfl (And.intro rfl (And.intro rfl trivial)))))
abbrev P_TJ_steps_64 (sh : Shp) (c : Nat) (v1 : Int32) (v2 : Int32) (v3 : Int32) (res : (HP × Int32)) : (HP × Int32) → Prop := fun s => Fx q_TJ_steps 6 sh 64 [some (.ref c), some (.int v1), some (.int v2), some (.int v3), some (.int s.2), none, none, none, none] [] s.1 (some (.int res.2)) res.1
set_option maxHeartbeats 4000000 in
set_option maxRecDepth 20000 in
theorem t_TJ_steps_j120 (sh : Shp) (c : Nat) (hS : S_TJ sh c) (hp : HP) (v1 : Int32) (v2 : Int32) (v3 : Int32) (v4 : Int32) (v5 : Int32) (v6 : Int32) (s0 : Int32) (res : (HP × Int32)) (t : ((HP × Int32) ⊕ (HP × Int32))) (hf : f_TJ_steps_j120 c hp v1 v2 v3 v4 v5 v6 s0 = some t) (hk : (Kel (P_TJ_steps_64 sh c v1 v2 v3 res) (fun v => v = res)) t) : Fx q_TJ_steps 6 sh 120 [some (.ref c), some (.int v1), some (.int v2), some (.int v3), some (.int v4), some (.int v5), some (.int v6), none, none] [.int s0] hp (some (.int res.2)) res.1 := by
  unfold f_TJ_steps_j120 at hf
  refine Fx.run [(.istore 7, 2, 7, 0, .null), (.iload 7, 2, 7, 0, .null)] 124 (by decide +kernel) ?_
  show Fx q_TJ_steps 6 sh 124 [some (.ref c), some (.int v1), some (.int v2), some (.int v3), some (.int v4), some (.int v5), some (.int v6), some (.int s0), none] [.int s0] hp (some (.int res.2)) res.1
  refine Fx.if_le (54) 178 127 (by decide +kernel) (fun b19 => ?_) (fun b19 => ?_)
  · replace hf := ifp b19 hf
    refine Fx.run [(.iinc 4 1, 3, 4, 0, .int 1)] 181 (by decide +kernel) ?_
    show Fx q_TJ_steps 6 sh 181 [some (.ref c), some (.int v1), some (.int v2), some (.int v3), some (.int (v4 + 1)), some (.int v5), some (.int v6), some (.int s0), none] [] hp (some (.int res.2)) res.1
    refine Fx.goto (-117) 64 (by decide +kernel) ?_
    obtain rfl := Option.some.inj hf
    have hk : Fx q_TJ_steps 6 sh 64 [some (.ref c), some (.int v1), some (.int v2), some (.int v3), some (.int (v4 + 1)), none, none, none, none] [] hp (some (.int res.2)) res.1 := hk
    exact Fx.le hk (And.intro rfl (And.intro rfl (And.intro rfl (And.intro rfl (And.intro rfl trivial)))))
  · replace hf := ifn b19 hf
    refine Fx.run [(.aload_n 0, 1, 0, 0, .null), (.getfield 12, 3, 8, 0, .ref 1), (.getfield 243, 3, 5, 0, .ref 1), (.iload_n 1, 1, 1, 0, .null), (.iload 5, 2, 5, 0, .null)] 137 (by decide +kernel) ?_
    show isK sh c 8 ∧ isK sh (c + 1) 5 ∧ Fx q_TJ_steps 6 sh 137 [some (.ref c), some (.int v1), some (.int v2), some (.int v3), some (.int v4), some (.int v5), some (.int v6), some (.int s0), none] [.int v5, .int v1, .ref ((c + 1) + 1)] hp (some (.int res.2)) res.1
    refine ⟨hS.1, hS.2.1.1, ?_⟩
    replace hf := bnd hf
    obtain ⟨r20, hr20, hf⟩ := hf
    refine Fx.callV (rr := (some (.int r20))) (hp1 := hp) [.int v1, .int v5] [] lk_8_327 (by decide +kernel) (t_Ro_valuesThere sh ((c + 1) + 1) (hS.2.1.2.1) hp v1 v5 r20 hr20) ⟨Nat.le_of_ble_eq_true rfl, Nat.le_of_ble_eq_true rfl⟩ (hS.2.1.2.1).1 (by decide) rfl (Nat.le_of_ble_eq_true rfl) ?_
    show Fx q_TJ_steps 6 sh 140 [some (.ref c), some (.int v1), some (.int v2), some (.int v3), some (.int v4), some (.int v5), some (.int v6), some (.int s0), none] [.int r20] hp (some (.int res.2)) res.1
    refine Fx.run [(.aload_n 0, 1, 0, 0, .null), (.getfield 12, 3, 8, 0, .ref 1), (.getfield 246, 3, 5, 1, .ref 7), (.iload_n 1, 1, 1, 0, .null), (.iload 5, 2, 5, 0, .null)] 150 (by decide +kernel) ?_
    show isK sh c 8 ∧ isK sh (c + 1) 5 ∧ Fx q_TJ_steps 6 sh 150 [some (.ref c), some (.int v1), some (.int v2), some (.int v3), some (.int v4), some (.int v5), some (.int v6), some (.int s0), none] [.int v5, .int v1, .ref ((c + 1) + 7), .int r20] hp (some (.int res.2)) res.1
    refine ⟨hS.1, hS.2.1.1, ?_⟩
    replace hf := bnd hf
    obtain ⟨r21, hr21, hf⟩ := hf
    refine Fx.callV (rr := (some (.int r21))) (hp1 := hp) [.int v1, .int v5] [.int r20] lk_8_327 (by decide +kernel) (t_Ro_valuesThere sh ((c + 1) + 7) (hS.2.1.2.2.1) hp v1 v5 r21 hr21) ⟨Nat.le_of_ble_eq_true rfl, Nat.le_of_ble_eq_true rfl⟩ (hS.2.1.2.2.1).1 (by decide) rfl (Nat.le_of_ble_eq_true rfl) ?_
    show Fx q_TJ_steps 6 sh 153 [some (.ref c), some (.int v1), some (.int v2), some (.int v3), some (.int v4), some (.int v5), some (.int v6), some (.int s0), none] [.int r21, .int r20] hp (some (.int res.2)) res.1
    refine Fx.run [(.iadd, 1, 0, 0, .null), (.istore 8, 2, 8, 0, .null), (.aload_n 0, 1, 0, 0, .null), (.getfield 26, 3, 8, 3, .ref 34), (.iload 5, 2, 5, 0, .null)] 162 (by decide +kernel) ?_
    show isK sh c 8 ∧ Fx q_TJ_steps 6 sh 162 [some (.ref c), some (.int v1), some (.int v2), some (.int v3), some (.int v4), some (.int v5), some (.int v6), some (.int s0), some (.int (r20 + r21))] [.int v5, .ref (c + 34)] hp (some (.int res.2)) res.1
    refine ⟨hS.1, ?_⟩
    replace hf := bnd hf
    obtain ⟨r22, hr22, hf⟩ := hf
    refine Fx.callS (rr := (some (.int r22))) (hp1 := hp) [.int v5] [.ref (c + 34)] lk_8_160 (by decide +kernel) (t_TJ_timeOf sh hp v5 r22 hr22) ⟨Nat.le_of_ble_eq_true rfl, Nat.le_of_ble_eq_true rfl⟩ rfl (Nat.le_of_ble_eq_true rfl) ?_
    show Fx q_TJ_steps 6 sh 165 [some (.ref c), some (.int v1), some (.int v2), some (.int v3), some (.int v4), some (.int v5), some (.int v6), some (.int s0), some (.int (r20 + r21))] [.int r22, .ref (c + 34)] hp (some (.int res.2)) res.1
    refine Fx.run [(.iload 6, 2, 6, 0, .null)] 167 (by decide +kernel) ?_
    show Fx q_TJ_steps 6 sh 167 [some (.ref c), some (.int v1), some (.int v2), some (.int v3), some (.int v4), some (.int v5), some (.int v6), some (.int s0), some (.int (r20 + r21))] [.int v6, .int r22, .ref (c + 34)] hp (some (.int res.2)) res.1
    replace hf := bnd hf
    obtain ⟨r23, hr23, hf⟩ := hf
    refine Fx.callS (rr := (some (.int r23))) (hp1 := hp) [.int v6] [.int r22, .ref (c + 34)] lk_8_160 (by decide +kernel) (t_TJ_timeOf sh hp v6 r23 hr23) ⟨Nat.le_of_ble_eq_true rfl, Nat.le_of_ble_eq_true rfl⟩ rfl (Nat.le_of_ble_eq_true rfl) ?_
    show Fx q_TJ_steps 6 sh 170 [some (.ref c), some (.int v1), some (.int v2), some (.int v3), some (.int v4), some (.int v5), some (.int v6), some (.int s0), some (.int (r20 + r21))] [.int r23, .int r22, .ref (c + 34)] hp (some (.int res.2)) res.1
    refine Fx.run [(.iload 7, 2, 7, 0, .null), (.iload 8, 2, 8, 0, .null), (.iconst 0, 1, 0, 0, .int 0)] 175 (by decide +kernel) ?_
    show Fx q_TJ_steps 6 sh 175 [some (.ref c), some (.int v1), some (.int v2), some (.int v3), some (.int v4), some (.int v5), some (.int v6), some (.int s0), some (.int (r20 + r21))] [.int 0, .int (r20 + r21), .int s0, .int r23, .int r22, .ref (c + 34)] hp (some (.int res.2)) res.1
    replace hf := bnd hf
    obtain ⟨h25, hr24, hf⟩ := hf
    refine Fx.callV (rr := none) (hp1 := h25) [.int r22, .int r23, .int s0, .int (r20 + r21), .int 0] [] lk_8_316 (by decide +kernel) (t_Pa_put sh (c + 34) (hS.2.2.2.1) hp r22 r23 s0 (r20 + r21) 0 h25 hr24) ⟨Nat.le_of_ble_eq_true rfl, Nat.le_of_ble_eq_true rfl⟩ (hS.2.2.2.1).1 (by decide) rfl (Nat.le_of_ble_eq_true rfl) ?_
    show Fx q_TJ_steps 6 sh 178 [some (.ref c), some (.int v1), some (.int v2), some (.int v3), some (.int v4), some (.int v5), some (.int v6), some (.int s0), some (.int (r20 + r21))] [] h25 (some (.int res.2)) res.1
    refine Fx.run [(.iinc 4 1, 3, 4, 0, .int 1)] 181 (by decide +kernel) ?_
    show Fx q_TJ_steps 6 sh 181 [some (.ref c), some (.int v1), some (.int v2), some (.int v3), some (.int (v4 + 1)), some (.int v5), some (.int v6), some (.int s0), some (.int (r20 + r21))] [] h25 (some (.int res.2)) res.1
    refine Fx.goto (-117) 64 (by decide +kernel) ?_
    obtain rfl := Option.some.inj hf
    have hk : Fx q_TJ_steps 6 sh 64 [some (.ref c), some (.int v1), some (.int v2), some (.int v3), some (.int (v4 + 1)), none, none, none, none] [] h25 (some (.int res.2)) res.1 := hk
    exact Fx.le hk (And.intro rfl (And.intro rfl (And.intro rfl (And.intro rfl (And.intro rfl trivial)))))
set_option maxHeartbeats 4000000 in
set_option maxRecDepth 20000 in
theorem t_TJ_steps_l64 (sh : Shp) (c : Nat) (hS : S_TJ sh c) (hp : HP) (v1 : Int32) (v2 : Int32) (v3 : Int32) (res : (HP × Int32)) : ∀ (s : (HP × Int32)) (t : (HP × Int32)), f_TJ_steps_l64 c hp v1 v2 v3 s = some t → (fun v => v = res) t → P_TJ_steps_64 sh c v1 v2 v3 res s := by
  refine loop_ind (P_TJ_steps_64 sh c v1 v2 v3 res) (fun v => v = res) ?_
  intro s t hf hk
  obtain ⟨hp, v4⟩ := s
  replace hf : f_TJ_steps_b64 c hp v1 v2 v3 v4 = some t := hf
  show Fx q_TJ_steps 6 sh 64 [some (.ref c), some (.int v1), some (.int v2), some (.int v3), some (.int v4), none, none, none, none] [] hp (some (.int res.2)) res.1
  unfold f_TJ_steps_b64 at hf
  refine Fx.run [(.iload 4, 2, 4, 0, .null), (.aload_n 0, 1, 0, 0, .null), (.getfield 19, 3, 8, 2, .ref 32), (.getfield 291, 3, 0, 1, .null)] 73 (by decide +kernel) ?_
  show isK sh c 8 ∧ isK sh (c + 32) 0 ∧ Fx q_TJ_steps 6 sh 73 [some (.ref c), some (.int v1), some (.int v2), some (.int v3), some (.int v4), none, none, none, none] [.int (hp.1 (c + 32) 1), .int v4] hp (some (.int res.2)) res.1
  refine ⟨hS.1, hS.2.2.1.1, ?_⟩
  refine Fx.icmp_ge (111) 184 76 (by decide +kernel) (fun b13 => ?_) (fun b13 => ?_)
  · replace hf := ifp b13 hf
    replace hf := mpd hf
    obtain ⟨t, hf, rfl⟩ := hf
    refine Fx.run [(.iload_n 2, 1, 2, 0, .null), (.iconst (-1), 1, 0, 0, .int (-1))] 186 (by decide +kernel) ?_
    show Fx q_TJ_steps 6 sh 186 [some (.ref c), some (.int v1), some (.int v2), some (.int v3), some (.int v4), none, none, none, none] [.int (-1), .int v2] hp (some (.int res.2)) res.1
    refine Fx.icmp_ne (13) 199 189 (by decide +kernel) (fun b14 => ?_) (fun b14 => ?_)
    · replace hf := ifn b14 hf
      refine Fx.run [(.aload_n 0, 1, 0, 0, .null), (.getfield 26, 3, 8, 3, .ref 34), (.iload_n 2, 1, 2, 0, .null), (.iload_n 3, 1, 3, 0, .null), (.iconst 4, 1, 0, 0, .int 4)] 206 (by decide +kernel) ?_
      show isK sh c 8 ∧ Fx q_TJ_steps 6 sh 206 [some (.ref c), some (.int v1), some (.int v2), some (.int v3), some (.int v4), none, none, none, none] [.int 4, .int v3, .int v2, .ref (c + 34)] hp (some (.int res.2)) res.1
      refine ⟨hS.1, ?_⟩
      replace hf := bnd hf
      obtain ⟨r15, hr15, hf⟩ := hf
      refine Fx.callV (rr := (some (.int r15))) (hp1 := hp) [.int v2, .int v3, .int 4] [] lk_8_221 (by decide +kernel) (t_Pa_answer sh (c + 34) (hS.2.2.2.1) hp v2 v3 4 r15 hr15) ⟨Nat.le_of_ble_eq_true rfl, Nat.le_of_ble_eq_true rfl⟩ (hS.2.2.2.1).1 (by decide) rfl (Nat.le_of_ble_eq_true rfl) ?_
      show Fx q_TJ_steps 6 sh 209 [some (.ref c), some (.int v1), some (.int v2), some (.int v3), some (.int v4), none, none, none, none] [.int r15] hp (some (.int res.2)) res.1
      obtain rfl := Option.some.inj hf
      have hk : (hp, r15) = res := hk
      subst hk
      exact Fx.iret (by decide +kernel) rfl
    · replace hf := ifp b14 hf
      refine Fx.run [(.aload_n 0, 1, 0, 0, .null), (.getfield 26, 3, 8, 3, .ref 34), (.getfield 211, 3, 3, 2, .null)] 196 (by decide +kernel) ?_
      show isK sh c 8 ∧ isK sh (c + 34) 3 ∧ Fx q_TJ_steps 6 sh 196 [some (.ref c), some (.int v1), some (.int v2), some (.int v3), some (.int v4), none, none, none, none] [.int (hp.1 (c + 34) 2)] hp (some (.int res.2)) res.1
      refine ⟨hS.1, hS.2.2.2.1.1, ?_⟩
      refine Fx.goto (13) 209 (by decide +kernel) ?_
      obtain rfl := Option.some.inj hf
      have hk : (hp, (hp.1 (c + 34) 2)) = res := hk
      subst hk
      exact Fx.iret (by decide +kernel) rfl
  · replace hf := ifn b13 hf
    refine Fx.run [(.aload_n 0, 1, 0, 0, .null), (.getfield 19, 3, 8, 2, .ref 32), (.iload 4, 2, 4, 0, .null), (.iconst 1, 1, 0, 0, .int 1), (.isub, 1, 0, 0, .null)] 84 (by decide +kernel) ?_
    show isK sh c 8 ∧ Fx q_TJ_steps 6 sh 84 [some (.ref c), some (.int v1), some (.int v2), some (.int v3), some (.int v4), none, none, none, none] [.int (v4 - 1), .ref (c + 32)] hp (some (.int res.2)) res.1
    refine ⟨hS.1, ?_⟩
    replace hf := bnd hf
    obtain ⟨r16, hr16, hf⟩ := hf
    refine Fx.callV (rr := (some (.long r16))) (hp1 := hp) [.int (v4 - 1)] [] lk_8_292 (by decide +kernel) (t_Co_at sh (c + 32) (hS.2.2.1) hp (v4 - 1) r16 hr16) ⟨Nat.le_of_ble_eq_true rfl, Nat.le_of_ble_eq_true rfl⟩ (hS.2.2.1).1 (by decide) rfl (Nat.le_of_ble_eq_true rfl) ?_
    show Fx q_TJ_steps 6 sh 87 [some (.ref c), some (.int v1), some (.int v2), some (.int v3), some (.int v4), none, none, none, none] [.long r16] hp (some (.int res.2)) res.1
    refine Fx.run [(.l2i, 1, 0, 0, .null), (.istore 5, 2, 5, 0, .null), (.aload_n 0, 1, 0, 0, .null), (.getfield 19, 3, 8, 2, .ref 32), (.iload 4, 2, 4, 0, .null)] 96 (by decide +kernel) ?_
    show isK sh c 8 ∧ Fx q_TJ_steps 6 sh 96 [some (.ref c), some (.int v1), some (.int v2), some (.int v3), some (.int v4), some (.int (Int64.toInt32 r16)), none, none, none] [.int v4, .ref (c + 32)] hp (some (.int res.2)) res.1
    refine ⟨hS.1, ?_⟩
    replace hf := bnd hf
    obtain ⟨r17, hr17, hf⟩ := hf
    refine Fx.callV (rr := (some (.long r17))) (hp1 := hp) [.int v4] [] lk_8_292 (by decide +kernel) (t_Co_at sh (c + 32) (hS.2.2.1) hp v4 r17 hr17) ⟨Nat.le_of_ble_eq_true rfl, Nat.le_of_ble_eq_true rfl⟩ (hS.2.2.1).1 (by decide) rfl (Nat.le_of_ble_eq_true rfl) ?_
    show Fx q_TJ_steps 6 sh 99 [some (.ref c), some (.int v1), some (.int v2), some (.int v3), some (.int v4), some (.int (Int64.toInt32 r16)), none, none, none] [.long r17] hp (some (.int res.2)) res.1
    refine Fx.run [(.l2i, 1, 0, 0, .null), (.istore 6, 2, 6, 0, .null), (.iload 5, 2, 5, 0, .null), (.iload 6, 2, 6, 0, .null)] 106 (by decide +kernel) ?_
    show Fx q_TJ_steps 6 sh 106 [some (.ref c), some (.int v1), some (.int v2), some (.int v3), some (.int v4), some (.int (Int64.toInt32 r16)), some (.int (Int64.toInt32 r17)), none, none] [.int (Int64.toInt32 r17), .int (Int64.toInt32 r16)] hp (some (.int res.2)) res.1
    refine Fx.icmp_ge (13) 119 109 (by decide +kernel) (fun b18 => ?_) (fun b18 => ?_)
    · replace hf := ifp b18 hf
      refine Fx.run [(.iconst 0, 1, 0, 0, .int 0)] 120 (by decide +kernel) ?_
      show Fx q_TJ_steps 6 sh 120 [some (.ref c), some (.int v1), some (.int v2), some (.int v3), some (.int v4), some (.int (Int64.toInt32 r16)), some (.int (Int64.toInt32 r17)), none, none] [.int 0] hp (some (.int res.2)) res.1
      have hl := t_TJ_steps_j120 sh c hS hp v1 v2 v3 v4 (Int64.toInt32 r16) (Int64.toInt32 r17) 0 res _ hf hk
      exact Fx.le hl (And.intro rfl (And.intro rfl (And.intro rfl (And.intro rfl (And.intro rfl (And.intro rfl (And.intro rfl trivial)))))))
    · replace hf := ifn b18 hf
      refine Fx.run [(.aload_n 0, 1, 0, 0, .null), (.iload_n 1, 1, 1, 0, .null), (.iload 5, 2, 5, 0, .null)] 113 (by decide +kernel) ?_
      show Fx q_TJ_steps 6 sh 113 [some (.ref c), some (.int v1), some (.int v2), some (.int v3), some (.int v4), some (.int (Int64.toInt32 r16)), some (.int (Int64.toInt32 r17)), none, none] [.int (Int64.toInt32 r16), .int v1, .ref c] hp (some (.int res.2)) res.1
      replace hf := bnd hf
      obtain ⟨r26, hr26, hf⟩ := hf
      refine Fx.callV (rr := (some (.int r26))) (hp1 := hp) [.int v1, .int (Int64.toInt32 r16)] [] lk_8_272 (by decide +kernel) (t_TJ_countThere sh c (hS) hp v1 (Int64.toInt32 r16) r26 hr26) ⟨Nat.le_of_ble_eq_true rfl, Nat.le_of_ble_eq_true rfl⟩ (hS).1 (by decide) rfl (Nat.le_of_ble_eq_true rfl) ?_
      show Fx q_TJ_steps 6 sh 116 [some (.ref c), some (.int v1), some (.int v2), some (.int v3), some (.int v4), some (.int (Int64.toInt32 r16)), some (.int (Int64.toInt32 r17)), none, none] [.int r26] hp (some (.int res.2)) res.1
      refine Fx.goto (4) 120 (by decide +kernel) ?_
      have hl := t_TJ_steps_j120 sh c hS hp v1 v2 v3 v4 (Int64.toInt32 r16) (Int64.toInt32 r17) r26 res _ hf hk
      exact Fx.le hl (And.intro rfl (And.intro rfl (And.intro rfl (And.intro rfl (And.intro rfl (And.intro rfl (And.intro rfl trivial)))))))
set_option maxHeartbeats 4000000 in
set_option maxRecDepth 20000 in
theorem t_TJ_steps (sh : Shp) (c : Nat) (hS : S_TJ sh c) (hp : HP) (v1 : Int32) (v2 : Int32) (v3 : Int32) (res : (HP × Int32)) (hf : f_TJ_steps c hp v1 v2 v3 = some res) : Ex 6 q_TJ_steps sh [.ref c, .int v1, .int v2, .int v3] hp (some (.int res.2)) res.1 := by
  refine Ex.of [some (.ref c), some (.int v1), some (.int v2), some (.int v3), none, none, none, none, none] rfl (Nat.le_of_ble_eq_true rfl) (by decide +kernel) rfl ?_
  obtain ⟨t, hk⟩ : ∃ t, t = res := ⟨res, rfl⟩
  rw [← hk] at hf
  unfold f_TJ_steps at hf
  refine Fx.run [(.iload_n 1, 1, 1, 0, .null)] 1 (by decide +kernel) ?_
  show Fx q_TJ_steps 6 sh 1 [some (.ref c), some (.int v1), some (.int v2), some (.int v3), none, none, none, none, none] [.int v1] hp (some (.int res.2)) res.1
  replace hf := bnd hf
  obtain ⟨r1, hr1, hf⟩ := hf
  refine Fx.callS (rr := (some (.int r1))) (hp1 := hp) [.int v1] [] lk_8_249 (by decide +kernel) (t_TJ_isKey sh hp v1 r1 hr1) ⟨Nat.le_of_ble_eq_true rfl, Nat.le_of_ble_eq_true rfl⟩ rfl (Nat.le_of_ble_eq_true rfl) ?_
  show Fx q_TJ_steps 6 sh 4 [some (.ref c), some (.int v1), some (.int v2), some (.int v3), none, none, none, none, none] [.int r1] hp (some (.int res.2)) res.1
  refine Fx.if_ne (6) 10 7 (by decide +kernel) (fun b2 => ?_) (fun b2 => ?_)
  · replace hf := ifn b2 hf
    refine Fx.run [(.aload_n 0, 1, 0, 0, .null), (.getfield 19, 3, 8, 2, .ref 32)] 14 (by decide +kernel) ?_
    show isK sh c 8 ∧ Fx q_TJ_steps 6 sh 14 [some (.ref c), some (.int v1), some (.int v2), some (.int v3), none, none, none, none, none] [.ref (c + 32)] hp (some (.int res.2)) res.1
    refine ⟨hS.1, ?_⟩
    replace hf := bnd hf
    obtain ⟨h4, hr3, hf⟩ := hf
    refine Fx.callV (rr := none) (hp1 := h4) [] [] lk_8_280 (by decide +kernel) (t_Co_empty sh (c + 32) (hS.2.2.1) hp h4 hr3) ⟨Nat.le_of_ble_eq_true rfl, Nat.le_of_ble_eq_true rfl⟩ (hS.2.2.1).1 (by decide) rfl (Nat.le_of_ble_eq_true rfl) ?_
    show Fx q_TJ_steps 6 sh 17 [some (.ref c), some (.int v1), some (.int v2), some (.int v3), none, none, none, none, none] [] h4 (some (.int res.2)) res.1
    refine Fx.run [(.aload_n 0, 1, 0, 0, .null), (.getfield 12, 3, 8, 0, .ref 1), (.getfield 243, 3, 5, 0, .ref 1), (.iload_n 1, 1, 1, 0, .null), (.aload_n 0, 1, 0, 0, .null), (.getfield 19, 3, 8, 2, .ref 32)] 29 (by decide +kernel) ?_
    show isK sh c 8 ∧ isK sh (c + 1) 5 ∧ isK sh c 8 ∧ Fx q_TJ_steps 6 sh 29 [some (.ref c), some (.int v1), some (.int v2), some (.int v3), none, none, none, none, none] [.ref (c + 32), .int v1, .ref ((c + 1) + 1)] h4 (some (.int res.2)) res.1
    refine ⟨hS.1, hS.2.1.1, hS.1, ?_⟩
    replace hf := bnd hf
    obtain ⟨h6, hr5, hf⟩ := hf
    refine Fx.callV (rr := none) (hp1 := h6) [.int v1, .ref (c + 32)] [] lk_8_323 (by decide +kernel) (t_Ro_putEnds sh ((c + 1) + 1) (hS.2.1.2.1) h4 v1 (c + 32) (hS.2.2.1) h6 hr5) ⟨Nat.le_of_ble_eq_true rfl, Nat.le_of_ble_eq_true rfl⟩ (hS.2.1.2.1).1 (by decide) rfl (Nat.le_of_ble_eq_true rfl) ?_
    show Fx q_TJ_steps 6 sh 32 [some (.ref c), some (.int v1), some (.int v2), some (.int v3), none, none, none, none, none] [] h6 (some (.int res.2)) res.1
    refine Fx.run [(.aload_n 0, 1, 0, 0, .null), (.getfield 12, 3, 8, 0, .ref 1), (.getfield 246, 3, 5, 1, .ref 7), (.iload_n 1, 1, 1, 0, .null), (.aload_n 0, 1, 0, 0, .null), (.getfield 19, 3, 8, 2, .ref 32)] 44 (by decide +kernel) ?_
    show isK sh c 8 ∧ isK sh (c + 1) 5 ∧ isK sh c 8 ∧ Fx q_TJ_steps 6 sh 44 [some (.ref c), some (.int v1), some (.int v2), some (.int v3), none, none, none, none, none] [.ref (c + 32), .int v1, .ref ((c + 1) + 7)] h6 (some (.int res.2)) res.1
    refine ⟨hS.1, hS.2.1.1, hS.1, ?_⟩
    replace hf := bnd hf
    obtain ⟨h8, hr7, hf⟩ := hf
    refine Fx.callV (rr := none) (hp1 := h8) [.int v1, .ref (c + 32)] [] lk_8_323 (by decide +kernel) (t_Ro_putEnds sh ((c + 1) + 7) (hS.2.1.2.2.1) h6 v1 (c + 32) (hS.2.2.1) h8 hr7) ⟨Nat.le_of_ble_eq_true rfl, Nat.le_of_ble_eq_true rfl⟩ (hS.2.1.2.2.1).1 (by decide) rfl (Nat.le_of_ble_eq_true rfl) ?_
    show Fx q_TJ_steps 6 sh 47 [some (.ref c), some (.int v1), some (.int v2), some (.int v3), none, none, none, none, none] [] h8 (some (.int res.2)) res.1
    refine Fx.run [(.aload_n 0, 1, 0, 0, .null), (.getfield 19, 3, 8, 2, .ref 32)] 51 (by decide +kernel) ?_
    show isK sh c 8 ∧ Fx q_TJ_steps 6 sh 51 [some (.ref c), some (.int v1), some (.int v2), some (.int v3), none, none, none, none, none] [.ref (c + 32)] h8 (some (.int res.2)) res.1
    refine ⟨hS.1, ?_⟩
    replace hf := bnd hf
    obtain ⟨h10, hr9, hf⟩ := hf
    refine Fx.callV (rr := none) (hp1 := h10) [] [] lk_8_288 (by decide +kernel) (t_Co_sort sh (c + 32) (hS.2.2.1) h8 h10 hr9) ⟨Nat.le_of_ble_eq_true rfl, Nat.le_of_ble_eq_true rfl⟩ (hS.2.2.1).1 (by decide) rfl (Nat.le_of_ble_eq_true rfl) ?_
    show Fx q_TJ_steps 6 sh 54 [some (.ref c), some (.int v1), some (.int v2), some (.int v3), none, none, none, none, none] [] h10 (some (.int res.2)) res.1
    refine Fx.run [(.aload_n 0, 1, 0, 0, .null), (.getfield 26, 3, 8, 3, .ref 34)] 58 (by decide +kernel) ?_
    show isK sh c 8 ∧ Fx q_TJ_steps 6 sh 58 [some (.ref c), some (.int v1), some (.int v2), some (.int v3), none, none, none, none, none] [.ref (c + 34)] h10 (some (.int res.2)) res.1
    refine ⟨hS.1, ?_⟩
    replace hf := bnd hf
    obtain ⟨h12, hr11, hf⟩ := hf
    refine Fx.callV (rr := none) (hp1 := h12) [] [] lk_8_273 (by decide +kernel) (t_Pa_empty sh (c + 34) (hS.2.2.2.1) h10 h12 hr11) ⟨Nat.le_of_ble_eq_true rfl, Nat.le_of_ble_eq_true rfl⟩ (hS.2.2.2.1).1 (by decide) rfl (Nat.le_of_ble_eq_true rfl) ?_
    show Fx q_TJ_steps 6 sh 61 [some (.ref c), some (.int v1), some (.int v2), some (.int v3), none, none, none, none, none] [] h12 (some (.int res.2)) res.1
    refine Fx.run [(.iconst 1, 1, 0, 0, .int 1), (.istore 4, 2, 4, 0, .null)] 64 (by decide +kernel) ?_
    show Fx q_TJ_steps 6 sh 64 [some (.ref c), some (.int v1), some (.int v2), some (.int v3), some (.int 1), none, none, none, none] [] h12 (some (.int res.2)) res.1
    have hl := t_TJ_steps_l64 sh c hS h12 v1 v2 v3 res (h12, 1) _ hf hk
    have hl : Fx q_TJ_steps 6 sh 64 [some (.ref c), some (.int v1), some (.int v2), some (.int v3), some (.int 1), none, none, none, none] [] h12 (some (.int res.2)) res.1 := hl
    exact Fx.le hl (And.intro rfl (And.intro rfl (And.intro rfl (And.intro rfl (And.intro rfl trivial)))))
  · replace hf := ifp b2 hf
    refine Fx.run [(.ldc 123, 2, 0, 0, .int (-10000000))] 9 (by decide +kernel) ?_
    show Fx q_TJ_steps 6 sh 9 [some (.ref c), some (.int v1), some (.int v2), some (.int v3), none, none, none, none, none] [.int (-10000000)] hp (some (.int res.2)) res.1
    obtain rfl := Option.some.inj hf
    have hk : (hp, (-10000000)) = res := hk
    subst hk
    exact Fx.iret (by decide +kernel) rfl
set_option maxHeartbeats 4000000 in
set_option maxRecDepth 20000 in
theorem t_Ro_doShare (sh : Shp) (c : Nat) (hS : S_Ro sh c) (hp : HP) (v1 : Int32) (v2 : Int32) (res : Int32) (hf : f_Ro_doShare c hp v1 v2 = some res) : Ex 3 q_Ro_doShare sh [.ref c, .int v1, .int v2] hp (some (.int res)) hp := by
  refine Ex.of [some (.ref c), some (.int v1), some (.int v2)] rfl (Nat.le_of_ble_eq_true rfl) (by decide +kernel) rfl ?_
  obtain ⟨t, hk⟩ : ∃ t, t = res := ⟨res, rfl⟩
  rw [← hk] at hf
  unfold f_Ro_doShare at hf
  refine Fx.run [(.aload_n 0, 1, 0, 0, .null), (.iload_n 1, 1, 1, 0, .null)] 2 (by decide +kernel) ?_
  show Fx q_Ro_doShare 3 sh 2 [some (.ref c), some (.int v1), some (.int v2)] [.int v1, .ref c] hp (some (.int res)) hp
  replace hf := bnd hf
  obtain ⟨r1, hr1, hf⟩ := hf
  refine Fx.callV (rr := (some (.int r1))) (hp1 := hp) [.int v1] [] lk_4_54 (by decide +kernel) (t_Ro_startPlace sh c (hS) hp v1 r1 hr1) ⟨Nat.le_of_ble_eq_true rfl, Nat.le_of_ble_eq_true rfl⟩ (hS).1 (by decide) rfl (Nat.le_of_ble_eq_true rfl) ?_
  show Fx q_Ro_doShare 3 sh 5 [some (.ref c), some (.int v1), some (.int v2)] [.int r1] hp (some (.int res)) hp
  refine Fx.run [(.aload_n 0, 1, 0, 0, .null), (.iload_n 2, 1, 2, 0, .null)] 7 (by decide +kernel) ?_
  show Fx q_Ro_doShare 3 sh 7 [some (.ref c), some (.int v1), some (.int v2)] [.int v2, .ref c, .int r1] hp (some (.int res)) hp
  replace hf := bnd hf
  obtain ⟨r2, hr2, hf⟩ := hf
  refine Fx.callV (rr := (some (.int r2))) (hp1 := hp) [.int v2] [.int r1] lk_4_57 (by decide +kernel) (t_Ro_endPlace sh c (hS) hp v2 r2 hr2) ⟨Nat.le_of_ble_eq_true rfl, Nat.le_of_ble_eq_true rfl⟩ (hS).1 (by decide) rfl (Nat.le_of_ble_eq_true rfl) ?_
  show Fx q_Ro_doShare 3 sh 10 [some (.ref c), some (.int v1), some (.int v2)] [.int r2, .int r1] hp (some (.int res)) hp
  refine Fx.icmp_ge (20) 30 13 (by decide +kernel) (fun b3 => ?_) (fun b3 => ?_)
  · replace hf := ifp b3 hf
    refine Fx.run [(.iconst 0, 1, 0, 0, .int 0)] 31 (by decide +kernel) ?_
    show Fx q_Ro_doShare 3 sh 31 [some (.ref c), some (.int v1), some (.int v2)] [.int 0] hp (some (.int res)) hp
    obtain rfl := Option.some.inj hf
    have hk : 0 = res := hk
    subst hk
    exact Fx.zret (by decide +kernel) rfl (Or.inl rfl)
  · replace hf := ifn b3 hf
    refine Fx.run [(.aload_n 0, 1, 0, 0, .null), (.iload_n 2, 1, 2, 0, .null)] 15 (by decide +kernel) ?_
    show Fx q_Ro_doShare 3 sh 15 [some (.ref c), some (.int v1), some (.int v2)] [.int v2, .ref c] hp (some (.int res)) hp
    replace hf := bnd hf
    obtain ⟨r4, hr4, hf⟩ := hf
    refine Fx.callV (rr := (some (.int r4))) (hp1 := hp) [.int v2] [] lk_4_54 (by decide +kernel) (t_Ro_startPlace sh c (hS) hp v2 r4 hr4) ⟨Nat.le_of_ble_eq_true rfl, Nat.le_of_ble_eq_true rfl⟩ (hS).1 (by decide) rfl (Nat.le_of_ble_eq_true rfl) ?_
    show Fx q_Ro_doShare 3 sh 18 [some (.ref c), some (.int v1), some (.int v2)] [.int r4] hp (some (.int res)) hp
    refine Fx.run [(.aload_n 0, 1, 0, 0, .null), (.iload_n 1, 1, 1, 0, .null)] 20 (by decide +kernel) ?_
    show Fx q_Ro_doShare 3 sh 20 [some (.ref c), some (.int v1), some (.int v2)] [.int v1, .ref c, .int r4] hp (some (.int res)) hp
    replace hf := bnd hf
    obtain ⟨r5, hr5, hf⟩ := hf
    refine Fx.callV (rr := (some (.int r5))) (hp1 := hp) [.int v1] [.int r4] lk_4_57 (by decide +kernel) (t_Ro_endPlace sh c (hS) hp v1 r5 hr5) ⟨Nat.le_of_ble_eq_true rfl, Nat.le_of_ble_eq_true rfl⟩ (hS).1 (by decide) rfl (Nat.le_of_ble_eq_true rfl) ?_
    show Fx q_Ro_doShare 3 sh 23 [some (.ref c), some (.int v1), some (.int v2)] [.int r5, .int r4] hp (some (.int res)) hp
    refine Fx.icmp_ge (7) 30 26 (by decide +kernel) (fun b6 => ?_) (fun b6 => ?_)
    · replace hf := ifp b6 hf
      refine Fx.run [(.iconst 0, 1, 0, 0, .int 0)] 31 (by decide +kernel) ?_
      show Fx q_Ro_doShare 3 sh 31 [some (.ref c), some (.int v1), some (.int v2)] [.int 0] hp (some (.int res)) hp
      obtain rfl := Option.some.inj hf
      have hk : 0 = res := hk
      subst hk
      exact Fx.zret (by decide +kernel) rfl (Or.inl rfl)
    · replace hf := ifn b6 hf
      refine Fx.run [(.iconst 1, 1, 0, 0, .int 1)] 27 (by decide +kernel) ?_
      show Fx q_Ro_doShare 3 sh 27 [some (.ref c), some (.int v1), some (.int v2)] [.int 1] hp (some (.int res)) hp
      refine Fx.goto (4) 31 (by decide +kernel) ?_
      obtain rfl := Option.some.inj hf
      have hk : 1 = res := hk
      subst hk
      exact Fx.zret (by decide +kernel) rfl (Or.inr rfl)
abbrev P_TJ_leastLane_6 (sh : Shp) (c : Nat) (hp : HP) (v1 : Nat) (v2 : Int32) (v3 : Int32) (res : Int32) : (Int64 × Int32) → Prop := fun s => Fx q_TJ_leastLane 4 sh 6 [some (.ref c), some (.ref v1), some (.int v2), some (.int v3), some (.long s.1), none, some (.int s.2), none] [] hp (some (.int res)) hp
abbrev P_TJ_leastLane_68 (sh : Shp) (c : Nat) (hp : HP) (v4 : Int64) (res : Int32) : (Int32) → Prop := fun s => Fx q_TJ_leastLane 4 sh 68 [some (.ref c), none, none, none, some (.long v4), none, some (.int s), none] [] hp (some (.int res)) hp
set_option maxHeartbeats 4000000 in
set_option maxRecDepth 20000 in
theorem t_TJ_leastLane_l68 (sh : Shp) (c : Nat) (hS : S_TJ sh c) (hp : HP) (v4 : Int64) (res : Int32) : ∀ (s : (Int32)) (t : Int32), f_TJ_leastLane_l68 c hp v4 s = some t → (fun v => v = res) t → P_TJ_leastLane_68 sh c hp v4 res s := by
  refine loop_ind (P_TJ_leastLane_68 sh c hp v4 res) (fun v => v = res) ?_
  intro s t hf hk
  revert hf hk; revert s; intro v6 hf hk
  replace hf : f_TJ_leastLane_b68 c hp v4 v6 = some t := hf
  show Fx q_TJ_leastLane 4 sh 68 [some (.ref c), none, none, none, some (.long v4), none, some (.int v6), none] [] hp (some (.int res)) hp
  unfold f_TJ_leastLane_b68 at hf
  refine Fx.run [(.iload 6, 2, 6, 0, .null), (.bipush 40, 2, 0, 0, .int 40)] 72 (by decide +kernel) ?_
  show Fx q_TJ_leastLane 4 sh 72 [some (.ref c), none, none, none, some (.long v4), none, some (.int v6), none] [.int 40, .int v6] hp (some (.int res)) hp
  refine Fx.icmp_ge (21) 93 75 (by decide +kernel) (fun b2 => ?_) (fun b2 => ?_)
  · replace hf := ifp b2 hf
    replace hf := mpd hf
    obtain ⟨t, hf, rfl⟩ := hf
    refine Fx.run [(.iload 6, 2, 6, 0, .null)] 95 (by decide +kernel) ?_
    show Fx q_TJ_leastLane 4 sh 95 [some (.ref c), none, none, none, some (.long v4), none, some (.int v6), none] [.int v6] hp (some (.int res)) hp
    obtain rfl := Option.some.inj hf
    have hk : v6 = res := hk
    subst hk
    exact Fx.iret (by decide +kernel) rfl
  · replace hf := ifn b2 hf
    refine Fx.run [(.lload 4, 2, 4, 0, .null), (.iload 6, 2, 6, 0, .null), (.lshr, 1, 0, 0, .null), (.lconst 1, 1, 0, 0, .long 1), (.land, 1, 0, 0, .null), (.lconst 0, 1, 0, 0, .long 0), (.lcmp, 1, 0, 0, .null)] 84 (by decide +kernel) ?_
    show Fx q_TJ_leastLane 4 sh 84 [some (.ref c), none, none, none, some (.long v4), none, some (.int v6), none] [.int (lg_cmp ((v4 >>> (Int32.toInt64 v6 &&& 63)) &&& 1) 0)] hp (some (.int res)) hp
    refine Fx.if_eq (9) 93 87 (by decide +kernel) (fun b3 => ?_) (fun b3 => ?_)
    · replace hf := ifp b3 hf
      replace hf := mpd hf
      obtain ⟨t, hf, rfl⟩ := hf
      refine Fx.run [(.iload 6, 2, 6, 0, .null)] 95 (by decide +kernel) ?_
      show Fx q_TJ_leastLane 4 sh 95 [some (.ref c), none, none, none, some (.long v4), none, some (.int v6), none] [.int v6] hp (some (.int res)) hp
      obtain rfl := Option.some.inj hf
      have hk : v6 = res := hk
      subst hk
      exact Fx.iret (by decide +kernel) rfl
    · replace hf := ifn b3 hf
      refine Fx.run [(.iinc 6 1, 3, 6, 0, .int 1)] 90 (by decide +kernel) ?_
      show Fx q_TJ_leastLane 4 sh 90 [some (.ref c), none, none, none, some (.long v4), none, some (.int (v6 + 1)), none] [] hp (some (.int res)) hp
      refine Fx.goto (-22) 68 (by decide +kernel) ?_
      obtain rfl := Option.some.inj hf
      have hk : Fx q_TJ_leastLane 4 sh 68 [some (.ref c), none, none, none, some (.long v4), none, some (.int (v6 + 1)), none] [] hp (some (.int res)) hp := hk
      exact Fx.le hk (And.intro rfl (And.intro rfl (And.intro rfl trivial)))
set_option maxHeartbeats 4000000 in
set_option maxRecDepth 20000 in
theorem t_TJ_leastLane_l6 (sh : Shp) (c : Nat) (hS : S_TJ sh c) (hp : HP) (v1 : Nat) (hv1 : S_Ro sh v1) (v2 : Int32) (v3 : Int32) (res : Int32) : ∀ (s : (Int64 × Int32)) (t : Int32), f_TJ_leastLane_l6 c hp v1 v2 v3 s = some t → (fun v => v = res) t → P_TJ_leastLane_6 sh c hp v1 v2 v3 res s := by
  refine loop_ind (P_TJ_leastLane_6 sh c hp v1 v2 v3 res) (fun v => v = res) ?_
  intro s t hf hk
  obtain ⟨v4, v6⟩ := s
  replace hf : f_TJ_leastLane_b6 c hp v1 v2 v3 v4 v6 = some t := hf
  show Fx q_TJ_leastLane 4 sh 6 [some (.ref c), some (.ref v1), some (.int v2), some (.int v3), some (.long v4), none, some (.int v6), none] [] hp (some (.int res)) hp
  unfold f_TJ_leastLane_b6 at hf
  refine Fx.run [(.iload 6, 2, 6, 0, .null), (.iload_n 3, 1, 3, 0, .null)] 9 (by decide +kernel) ?_
  show Fx q_TJ_leastLane 4 sh 9 [some (.ref c), some (.ref v1), some (.int v2), some (.int v3), some (.long v4), none, some (.int v6), none] [.int v3, .int v6] hp (some (.int res)) hp
  refine Fx.icmp_ge (56) 65 12 (by decide +kernel) (fun b1 => ?_) (fun b1 => ?_)
  · replace hf := ifp b1 hf
    replace hf := mpd hf
    obtain ⟨t, hf, rfl⟩ := hf
    refine Fx.run [(.iconst 0, 1, 0, 0, .int 0), (.istore 6, 2, 6, 0, .null)] 68 (by decide +kernel) ?_
    show Fx q_TJ_leastLane 4 sh 68 [some (.ref c), some (.ref v1), some (.int v2), some (.int v3), some (.long v4), none, some (.int 0), none] [] hp (some (.int res)) hp
    have hl := t_TJ_leastLane_l68 sh c hS hp v4 res 0 _ hf hk
    have hl : Fx q_TJ_leastLane 4 sh 68 [some (.ref c), none, none, none, some (.long v4), none, some (.int 0), none] [] hp (some (.int res)) hp := hl
    exact Fx.le hl (And.intro rfl (And.intro rfl (And.intro rfl trivial)))
  · replace hf := ifn b1 hf
    refine Fx.run [(.aload_n 0, 1, 0, 0, .null), (.getfield 19, 3, 8, 2, .ref 32), (.iload 6, 2, 6, 0, .null)] 18 (by decide +kernel) ?_
    show isK sh c 8 ∧ Fx q_TJ_leastLane 4 sh 18 [some (.ref c), some (.ref v1), some (.int v2), some (.int v3), some (.long v4), none, some (.int v6), none] [.int v6, .ref (c + 32)] hp (some (.int res)) hp
    refine ⟨hS.1, ?_⟩
    replace hf := bnd hf
    obtain ⟨r4, hr4, hf⟩ := hf
    refine Fx.callV (rr := (some (.long r4))) (hp1 := hp) [.int v6] [] lk_8_292 (by decide +kernel) (t_Co_at sh (c + 32) (hS.2.2.1) hp v6 r4 hr4) ⟨Nat.le_of_ble_eq_true rfl, Nat.le_of_ble_eq_true rfl⟩ (hS.2.2.1).1 (by decide) rfl (Nat.le_of_ble_eq_true rfl) ?_
    show Fx q_TJ_leastLane 4 sh 21 [some (.ref c), some (.ref v1), some (.int v2), some (.int v3), some (.long v4), none, some (.int v6), none] [.long r4] hp (some (.int res)) hp
    refine Fx.run [(.ldc2_w 295, 3, 0, 0, .long 63), (.land, 1, 0, 0, .null), (.l2i, 1, 0, 0, .null), (.istore 7, 2, 7, 0, .null), (.iload 7, 2, 7, 0, .null), (.bipush 40, 2, 0, 0, .int 40)] 32 (by decide +kernel) ?_
    show Fx q_TJ_leastLane 4 sh 32 [some (.ref c), some (.ref v1), some (.int v2), some (.int v3), some (.long v4), none, some (.int v6), some (.int (Int64.toInt32 (r4 &&& 63)))] [.int 40, .int (Int64.toInt32 (r4 &&& 63))] hp (some (.int res)) hp
    refine Fx.icmp_ge (27) 59 35 (by decide +kernel) (fun b5 => ?_) (fun b5 => ?_)
    · replace hf := ifp b5 hf
      refine Fx.run [(.iinc 6 1, 3, 6, 0, .int 1)] 62 (by decide +kernel) ?_
      show Fx q_TJ_leastLane 4 sh 62 [some (.ref c), some (.ref v1), some (.int v2), some (.int v3), some (.long v4), none, some (.int (v6 + 1)), some (.int (Int64.toInt32 (r4 &&& 63)))] [] hp (some (.int res)) hp
      refine Fx.goto (-56) 6 (by decide +kernel) ?_
      obtain rfl := Option.some.inj hf
      have hk : Fx q_TJ_leastLane 4 sh 6 [some (.ref c), some (.ref v1), some (.int v2), some (.int v3), some (.long v4), none, some (.int (v6 + 1)), none] [] hp (some (.int res)) hp := hk
      exact Fx.le hk (And.intro rfl (And.intro rfl (And.intro rfl (And.intro rfl (And.intro rfl (And.intro rfl trivial))))))
    · replace hf := ifn b5 hf
      refine Fx.run [(.aload_n 1, 1, 1, 0, .null), (.iload_n 2, 1, 2, 0, .null), (.iload 7, 2, 7, 0, .null)] 39 (by decide +kernel) ?_
      show Fx q_TJ_leastLane 4 sh 39 [some (.ref c), some (.ref v1), some (.int v2), some (.int v3), some (.long v4), none, some (.int v6), some (.int (Int64.toInt32 (r4 &&& 63)))] [.int (Int64.toInt32 (r4 &&& 63)), .int v2, .ref v1] hp (some (.int res)) hp
      replace hf := bnd hf
      obtain ⟨r6, hr6, hf⟩ := hf
      refine Fx.callV (rr := (some (.int r6))) (hp1 := hp) [.int v2, .int (Int64.toInt32 (r4 &&& 63))] [] lk_8_334 (by decide +kernel) (t_Ro_doShare sh v1 (hv1) hp v2 (Int64.toInt32 (r4 &&& 63)) r6 hr6) ⟨Nat.le_of_ble_eq_true rfl, Nat.le_of_ble_eq_true rfl⟩ (hv1).1 (by decide) rfl (Nat.le_of_ble_eq_true rfl) ?_
      show Fx q_TJ_leastLane 4 sh 42 [some (.ref c), some (.ref v1), some (.int v2), some (.int v3), some (.long v4), none, some (.int v6), some (.int (Int64.toInt32 (r4 &&& 63)))] [.int r6] hp (some (.int res)) hp
      refine Fx.if_eq (17) 59 45 (by decide +kernel) (fun b7 => ?_) (fun b7 => ?_)
      · replace hf := ifp b7 hf
        refine Fx.run [(.iinc 6 1, 3, 6, 0, .int 1)] 62 (by decide +kernel) ?_
        show Fx q_TJ_leastLane 4 sh 62 [some (.ref c), some (.ref v1), some (.int v2), some (.int v3), some (.long v4), none, some (.int (v6 + 1)), some (.int (Int64.toInt32 (r4 &&& 63)))] [] hp (some (.int res)) hp
        refine Fx.goto (-56) 6 (by decide +kernel) ?_
        obtain rfl := Option.some.inj hf
        have hk : Fx q_TJ_leastLane 4 sh 6 [some (.ref c), some (.ref v1), some (.int v2), some (.int v3), some (.long v4), none, some (.int (v6 + 1)), none] [] hp (some (.int res)) hp := hk
        exact Fx.le hk (And.intro rfl (And.intro rfl (And.intro rfl (And.intro rfl (And.intro rfl (And.intro rfl trivial))))))
      · replace hf := ifn b7 hf
        replace hf := gd hf
        obtain ⟨g8, hf⟩ := hf
        refine Fx.run [(.lload 4, 2, 4, 0, .null), (.lconst 1, 1, 0, 0, .long 1), (.aload_n 0, 1, 0, 0, .null), (.getfield 37, 3, 8, 5, .ref 41), (.iload 7, 2, 7, 0, .null), (.iaload, 1, 40, 0, .null), (.lshl, 1, 0, 0, .null), (.lor, 1, 0, 0, .null), (.lstore 4, 2, 4, 0, .null), (.iinc 6 1, 3, 6, 0, .int 1)] 62 (by decide +kernel) ?_
        show isK sh c 8 ∧ (isA sh (c + 41) 10 40 ∧ inb (Int64.toInt32 (r4 &&& 63)) 40) ∧ Fx q_TJ_leastLane 4 sh 62 [some (.ref c), some (.ref v1), some (.int v2), some (.int v3), some (.long (v4 ||| (1 <<< (Int32.toInt64 (hp.1 (c + 41) (ix (Int64.toInt32 (r4 &&& 63)))) &&& 63)))), none, some (.int (v6 + 1)), some (.int (Int64.toInt32 (r4 &&& 63)))] [] hp (some (.int res)) hp
        refine ⟨hS.1, ⟨hS.2.2.2.2.2, g8⟩, ?_⟩
        refine Fx.goto (-56) 6 (by decide +kernel) ?_
        obtain rfl := Option.some.inj hf
        have hk : Fx q_TJ_leastLane 4 sh 6 [some (.ref c), some (.ref v1), some (.int v2), some (.int v3), some (.long (v4 ||| (1 <<< (Int32.toInt64 (hp.1 (c + 41) (ix (Int64.toInt32 (r4 &&& 63)))) &&& 63)))), none, some (.int (v6 + 1)), none] [] hp (some (.int res)) hp := hk
        exact Fx.le hk (And.intro rfl (And.intro rfl (And.intro rfl (And.intro rfl (And.intro rfl (And.intro rfl trivial))))))
set_option maxHeartbeats 4000000 in
set_option maxRecDepth 20000 in
theorem t_TJ_leastLane (sh : Shp) (c : Nat) (hS : S_TJ sh c) (hp : HP) (v1 : Nat) (hv1 : S_Ro sh v1) (v2 : Int32) (v3 : Int32) (res : Int32) (hf : f_TJ_leastLane c hp v1 v2 v3 = some res) : Ex 4 q_TJ_leastLane sh [.ref c, .ref v1, .int v2, .int v3] hp (some (.int res)) hp := by
  refine Ex.of [some (.ref c), some (.ref v1), some (.int v2), some (.int v3), none, none, none, none] rfl (Nat.le_of_ble_eq_true rfl) (by decide +kernel) rfl ?_
  obtain ⟨t, hk⟩ : ∃ t, t = res := ⟨res, rfl⟩
  rw [← hk] at hf
  unfold f_TJ_leastLane at hf
  refine Fx.run [(.lconst 0, 1, 0, 0, .long 0), (.lstore 4, 2, 4, 0, .null), (.iconst 0, 1, 0, 0, .int 0), (.istore 6, 2, 6, 0, .null)] 6 (by decide +kernel) ?_
  show Fx q_TJ_leastLane 4 sh 6 [some (.ref c), some (.ref v1), some (.int v2), some (.int v3), some (.long 0), none, some (.int 0), none] [] hp (some (.int res)) hp
  have hl := t_TJ_leastLane_l6 sh c hS hp v1 (hv1) v2 v3 res (0, 0) _ hf hk
  have hl : Fx q_TJ_leastLane 4 sh 6 [some (.ref c), some (.ref v1), some (.int v2), some (.int v3), some (.long 0), none, some (.int 0), none] [] hp (some (.int res)) hp := hl
  exact Fx.le hl (And.intro rfl (And.intro rfl (And.intro rfl (And.intro rfl (And.intro rfl (And.intro rfl trivial))))))
abbrev P_TJ_lane_30 (sh : Shp) (c : Nat) (v2 : Int32) (v3 : Nat) (res : (HP × Int32)) : (HP × Int32) → Prop := fun s => Fx q_TJ_lane 5 sh 30 [some (.ref c), none, some (.int v2), some (.ref v3), some (.int s.2), none, none] [] s.1 (some (.int res.2)) res.1
abbrev P_TJ_lane_96 (sh : Shp) (c : Nat) (v2 : Int32) (v3 : Nat) (res : (HP × Int32)) : (HP × Int32) → Prop := fun s => Fx q_TJ_lane 5 sh 96 [some (.ref c), none, some (.int v2), some (.ref v3), some (.int s.2), none, none] [] s.1 (some (.int res.2)) res.1
set_option maxHeartbeats 4000000 in
set_option maxRecDepth 20000 in
theorem t_TJ_lane_l96 (sh : Shp) (c : Nat) (hS : S_TJ sh c) (hp : HP) (v2 : Int32) (v3 : Nat) (hv3 : S_Ro sh v3) (res : (HP × Int32)) : ∀ (s : (HP × Int32)) (t : (HP × Int32)), f_TJ_lane_l96 c hp v2 v3 s = some t → (fun v => v = res) t → P_TJ_lane_96 sh c v2 v3 res s := by
  refine loop_ind (P_TJ_lane_96 sh c v2 v3 res) (fun v => v = res) ?_
  intro s t hf hk
  obtain ⟨hp, v4⟩ := s
  replace hf : f_TJ_lane_b96 c hp v2 v3 v4 = some t := hf
  show Fx q_TJ_lane 5 sh 96 [some (.ref c), none, some (.int v2), some (.ref v3), some (.int v4), none, none] [] hp (some (.int res.2)) res.1
  unfold f_TJ_lane_b96 at hf
  refine Fx.run [(.iload 4, 2, 4, 0, .null), (.aload_n 0, 1, 0, 0, .null), (.getfield 19, 3, 8, 2, .ref 32), (.getfield 291, 3, 0, 1, .null)] 105 (by decide +kernel) ?_
  show isK sh c 8 ∧ isK sh (c + 32) 0 ∧ Fx q_TJ_lane 5 sh 105 [some (.ref c), none, some (.int v2), some (.ref v3), some (.int v4), none, none] [.int (hp.1 (c + 32) 1), .int v4] hp (some (.int res.2)) res.1
  refine ⟨hS.1, hS.2.2.1.1, ?_⟩
  refine Fx.icmp_ge (61) 166 108 (by decide +kernel) (fun b9 => ?_) (fun b9 => ?_)
  · replace hf := ifp b9 hf
    replace hf := mpd hf
    obtain ⟨t, hf, rfl⟩ := hf
    refine Fx.run [(.iconst (-1), 1, 0, 0, .int (-1))] 167 (by decide +kernel) ?_
    show Fx q_TJ_lane 5 sh 167 [some (.ref c), none, some (.int v2), some (.ref v3), some (.int v4), none, none] [.int (-1)] hp (some (.int res.2)) res.1
    obtain rfl := Option.some.inj hf
    have hk : (hp, (-1)) = res := hk
    subst hk
    exact Fx.iret (by decide +kernel) rfl
  · replace hf := ifn b9 hf
    refine Fx.run [(.aload_n 0, 1, 0, 0, .null), (.getfield 19, 3, 8, 2, .ref 32), (.iload 4, 2, 4, 0, .null)] 114 (by decide +kernel) ?_
    show isK sh c 8 ∧ Fx q_TJ_lane 5 sh 114 [some (.ref c), none, some (.int v2), some (.ref v3), some (.int v4), none, none] [.int v4, .ref (c + 32)] hp (some (.int res.2)) res.1
    refine ⟨hS.1, ?_⟩
    replace hf := bnd hf
    obtain ⟨r10, hr10, hf⟩ := hf
    refine Fx.callV (rr := (some (.long r10))) (hp1 := hp) [.int v4] [] lk_8_292 (by decide +kernel) (t_Co_at sh (c + 32) (hS.2.2.1) hp v4 r10 hr10) ⟨Nat.le_of_ble_eq_true rfl, Nat.le_of_ble_eq_true rfl⟩ (hS.2.2.1).1 (by decide) rfl (Nat.le_of_ble_eq_true rfl) ?_
    show Fx q_TJ_lane 5 sh 117 [some (.ref c), none, some (.int v2), some (.ref v3), some (.int v4), none, none] [.long r10] hp (some (.int res.2)) res.1
    refine Fx.run [(.ldc2_w 295, 3, 0, 0, .long 63), (.land, 1, 0, 0, .null), (.l2i, 1, 0, 0, .null), (.istore 5, 2, 5, 0, .null), (.aload_n 0, 1, 0, 0, .null), (.aload_n 3, 1, 3, 0, .null), (.iload 5, 2, 5, 0, .null), (.iload 4, 2, 4, 0, .null)] 130 (by decide +kernel) ?_
    show Fx q_TJ_lane 5 sh 130 [some (.ref c), none, some (.int v2), some (.ref v3), some (.int v4), some (.int (Int64.toInt32 (r10 &&& 63))), none] [.int v4, .int (Int64.toInt32 (r10 &&& 63)), .ref v3, .ref c] hp (some (.int res.2)) res.1
    replace hf := bnd hf
    obtain ⟨r11, hr11, hf⟩ := hf
    refine Fx.callV (rr := (some (.int r11))) (hp1 := hp) [.ref v3, .int (Int64.toInt32 (r10 &&& 63)), .int v4] [] lk_8_330 (by decide +kernel) (t_TJ_leastLane sh c (hS) hp v3 (hv3) (Int64.toInt32 (r10 &&& 63)) v4 r11 hr11) ⟨Nat.le_of_ble_eq_true rfl, Nat.le_of_ble_eq_true rfl⟩ (hS).1 (by decide) rfl (Nat.le_of_ble_eq_true rfl) ?_
    show Fx q_TJ_lane 5 sh 133 [some (.ref c), none, some (.int v2), some (.ref v3), some (.int v4), some (.int (Int64.toInt32 (r10 &&& 63))), none] [.int r11] hp (some (.int res.2)) res.1
    refine Fx.run [(.istore 6, 2, 6, 0, .null), (.iload 5, 2, 5, 0, .null), (.iload_n 2, 1, 2, 0, .null)] 138 (by decide +kernel) ?_
    show Fx q_TJ_lane 5 sh 138 [some (.ref c), none, some (.int v2), some (.ref v3), some (.int v4), some (.int (Int64.toInt32 (r10 &&& 63))), some (.int r11)] [.int v2, .int (Int64.toInt32 (r10 &&& 63))] hp (some (.int res.2)) res.1
    refine Fx.icmp_ne (6) 144 141 (by decide +kernel) (fun b12 => ?_) (fun b12 => ?_)
    · replace hf := ifn b12 hf
      refine Fx.run [(.iload 5, 2, 5, 0, .null), (.bipush 40, 2, 0, 0, .int 40)] 148 (by decide +kernel) ?_
      show Fx q_TJ_lane 5 sh 148 [some (.ref c), none, some (.int v2), some (.ref v3), some (.int v4), some (.int (Int64.toInt32 (r10 &&& 63))), some (.int r11)] [.int 40, .int (Int64.toInt32 (r10 &&& 63))] hp (some (.int res.2)) res.1
      refine Fx.icmp_ge (12) 160 151 (by decide +kernel) (fun b13 => ?_) (fun b13 => ?_)
      · replace hf := ifp b13 hf
        refine Fx.run [(.iinc 4 1, 3, 4, 0, .int 1)] 163 (by decide +kernel) ?_
        show Fx q_TJ_lane 5 sh 163 [some (.ref c), none, some (.int v2), some (.ref v3), some (.int (v4 + 1)), some (.int (Int64.toInt32 (r10 &&& 63))), some (.int r11)] [] hp (some (.int res.2)) res.1
        refine Fx.goto (-67) 96 (by decide +kernel) ?_
        obtain rfl := Option.some.inj hf
        have hk : Fx q_TJ_lane 5 sh 96 [some (.ref c), none, some (.int v2), some (.ref v3), some (.int (v4 + 1)), none, none] [] hp (some (.int res.2)) res.1 := hk
        exact Fx.le hk (And.intro rfl (And.intro rfl (And.intro rfl (And.intro rfl trivial))))
      · replace hf := ifn b13 hf
        replace hf := gd hf
        obtain ⟨g14, hf⟩ := hf
        refine Fx.run [(.aload_n 0, 1, 0, 0, .null), (.getfield 37, 3, 8, 5, .ref 41), (.iload 5, 2, 5, 0, .null), (.iload 6, 2, 6, 0, .null), (.iastore, 1, 40, 0, .null), (.iinc 4 1, 3, 4, 0, .int 1)] 163 (by decide +kernel) ?_
        show isK sh c 8 ∧ (isA sh (c + 41) 10 40 ∧ inb (Int64.toInt32 (r10 &&& 63)) 40) ∧ Fx q_TJ_lane 5 sh 163 [some (.ref c), none, some (.int v2), some (.ref v3), some (.int (v4 + 1)), some (.int (Int64.toInt32 (r10 &&& 63))), some (.int r11)] [] (upI hp (c + 41) (ix (Int64.toInt32 (r10 &&& 63))) r11) (some (.int res.2)) res.1
        refine ⟨hS.1, ⟨hS.2.2.2.2.2, g14⟩, ?_⟩
        refine Fx.goto (-67) 96 (by decide +kernel) ?_
        obtain rfl := Option.some.inj hf
        have hk : Fx q_TJ_lane 5 sh 96 [some (.ref c), none, some (.int v2), some (.ref v3), some (.int (v4 + 1)), none, none] [] (upI hp (c + 41) (ix (Int64.toInt32 (r10 &&& 63))) r11) (some (.int res.2)) res.1 := hk
        exact Fx.le hk (And.intro rfl (And.intro rfl (And.intro rfl (And.intro rfl trivial))))
    · replace hf := ifp b12 hf
      replace hf := mpd hf
      obtain ⟨t, hf, rfl⟩ := hf
      refine Fx.run [(.iload 6, 2, 6, 0, .null)] 143 (by decide +kernel) ?_
      show Fx q_TJ_lane 5 sh 143 [some (.ref c), none, some (.int v2), some (.ref v3), some (.int v4), some (.int (Int64.toInt32 (r10 &&& 63))), some (.int r11)] [.int r11] hp (some (.int res.2)) res.1
      obtain rfl := Option.some.inj hf
      have hk : (hp, r11) = res := hk
      subst hk
      exact Fx.iret (by decide +kernel) rfl
set_option maxHeartbeats 4000000 in
set_option maxRecDepth 20000 in
theorem t_TJ_lane_l30 (sh : Shp) (c : Nat) (hS : S_TJ sh c) (hp : HP) (v2 : Int32) (v3 : Nat) (hv3 : S_Ro sh v3) (res : (HP × Int32)) : ∀ (s : (HP × Int32)) (t : (HP × Int32)), f_TJ_lane_l30 c hp v2 v3 s = some t → (fun v => v = res) t → P_TJ_lane_30 sh c v2 v3 res s := by
  refine loop_ind (P_TJ_lane_30 sh c v2 v3 res) (fun v => v = res) ?_
  intro s t hf hk
  obtain ⟨hp, v4⟩ := s
  replace hf : f_TJ_lane_b30 c hp v2 v3 v4 = some t := hf
  show Fx q_TJ_lane 5 sh 30 [some (.ref c), none, some (.int v2), some (.ref v3), some (.int v4), none, none] [] hp (some (.int res.2)) res.1
  unfold f_TJ_lane_b30 at hf
  refine Fx.run [(.iload 4, 2, 4, 0, .null), (.aload_n 3, 1, 3, 0, .null), (.getfield 88, 3, 4, 5, .null)] 36 (by decide +kernel) ?_
  show isK sh v3 4 ∧ Fx q_TJ_lane 5 sh 36 [some (.ref c), none, some (.int v2), some (.ref v3), some (.int v4), none, none] [.int (hp.1 v3 5), .int v4] hp (some (.int res.2)) res.1
  refine ⟨hv3.1, ?_⟩
  refine Fx.icmp_ge (50) 86 39 (by decide +kernel) (fun b6 => ?_) (fun b6 => ?_)
  · replace hf := ifp b6 hf
    replace hf := mpd hf
    obtain ⟨t, hf, rfl⟩ := hf
    refine Fx.run [(.aload_n 0, 1, 0, 0, .null), (.getfield 19, 3, 8, 2, .ref 32)] 90 (by decide +kernel) ?_
    show isK sh c 8 ∧ Fx q_TJ_lane 5 sh 90 [some (.ref c), none, some (.int v2), some (.ref v3), some (.int v4), none, none] [.ref (c + 32)] hp (some (.int res.2)) res.1
    refine ⟨hS.1, ?_⟩
    replace hf := bnd hf
    obtain ⟨h8, hr7, hf⟩ := hf
    refine Fx.callV (rr := none) (hp1 := h8) [] [] lk_8_288 (by decide +kernel) (t_Co_sort sh (c + 32) (hS.2.2.1) hp h8 hr7) ⟨Nat.le_of_ble_eq_true rfl, Nat.le_of_ble_eq_true rfl⟩ (hS.2.2.1).1 (by decide) rfl (Nat.le_of_ble_eq_true rfl) ?_
    show Fx q_TJ_lane 5 sh 93 [some (.ref c), none, some (.int v2), some (.ref v3), some (.int v4), none, none] [] h8 (some (.int res.2)) res.1
    refine Fx.run [(.iconst 0, 1, 0, 0, .int 0), (.istore 4, 2, 4, 0, .null)] 96 (by decide +kernel) ?_
    show Fx q_TJ_lane 5 sh 96 [some (.ref c), none, some (.int v2), some (.ref v3), some (.int 0), none, none] [] h8 (some (.int res.2)) res.1
    have hl := t_TJ_lane_l96 sh c hS h8 v2 v3 (hv3) res (h8, 0) _ hf hk
    have hl : Fx q_TJ_lane 5 sh 96 [some (.ref c), none, some (.int v2), some (.ref v3), some (.int 0), none, none] [] h8 (some (.int res.2)) res.1 := hl
    exact Fx.le hl (And.intro rfl (And.intro rfl (And.intro rfl (And.intro rfl trivial))))
  · replace hf := ifn b6 hf
    replace hf := gd hf
    obtain ⟨g15, hf⟩ := hf
    replace hf := gd hf
    obtain ⟨g16, hf⟩ := hf
    refine Fx.run [(.aload_n 3, 1, 3, 0, .null), (.getfield 102, 3, 4, 1, .ref 2), (.iload 4, 2, 4, 0, .null), (.iaload, 1, 40, 0, .null), (.aload_n 3, 1, 3, 0, .null), (.getfield 102, 3, 4, 1, .ref 2), (.iload_n 2, 1, 2, 0, .null), (.iaload, 1, 40, 0, .null)] 52 (by decide +kernel) ?_
    show isK sh v3 4 ∧ (isA sh (v3 + 2) 10 40 ∧ inb v4 40) ∧ isK sh v3 4 ∧ (isA sh (v3 + 2) 10 40 ∧ inb v2 40) ∧ Fx q_TJ_lane 5 sh 52 [some (.ref c), none, some (.int v2), some (.ref v3), some (.int v4), none, none] [.int (hp.1 (v3 + 2) (ix v2)), .int (hp.1 (v3 + 2) (ix v4))] hp (some (.int res.2)) res.1
    refine ⟨hv3.1, ⟨hv3.2.2.1, g15⟩, hv3.1, ⟨hv3.2.2.1, g16⟩, ?_⟩
    refine Fx.icmp_ne (28) 80 55 (by decide +kernel) (fun b17 => ?_) (fun b17 => ?_)
    · replace hf := ifn b17 hf
      refine Fx.run [(.iinc 4 1, 3, 4, 0, .int 1)] 83 (by decide +kernel) ?_
      show Fx q_TJ_lane 5 sh 83 [some (.ref c), none, some (.int v2), some (.ref v3), some (.int (v4 + 1)), none, none] [] hp (some (.int res.2)) res.1
      refine Fx.goto (-53) 30 (by decide +kernel) ?_
      obtain rfl := Option.some.inj hf
      have hk : Fx q_TJ_lane 5 sh 30 [some (.ref c), none, some (.int v2), some (.ref v3), some (.int (v4 + 1)), none, none] [] hp (some (.int res.2)) res.1 := hk
      exact Fx.le hk (And.intro rfl (And.intro rfl (And.intro rfl (And.intro rfl trivial))))
    · replace hf := ifp b17 hf
      refine Fx.run [(.aload_n 0, 1, 0, 0, .null), (.getfield 19, 3, 8, 2, .ref 32), (.aload_n 3, 1, 3, 0, .null), (.iload 4, 2, 4, 0, .null)] 62 (by decide +kernel) ?_
      show isK sh c 8 ∧ Fx q_TJ_lane 5 sh 62 [some (.ref c), none, some (.int v2), some (.ref v3), some (.int v4), none, none] [.int v4, .ref v3, .ref (c + 32)] hp (some (.int res.2)) res.1
      refine ⟨hS.1, ?_⟩
      replace hf := bnd hf
      obtain ⟨r18, hr18, hf⟩ := hf
      refine Fx.callV (rr := (some (.int r18))) (hp1 := hp) [.int v4] [.ref (c + 32)] lk_8_231 (by decide +kernel) (t_Ro_startPlace sh v3 (hv3) hp v4 r18 hr18) ⟨Nat.le_of_ble_eq_true rfl, Nat.le_of_ble_eq_true rfl⟩ (hv3).1 (by decide) rfl (Nat.le_of_ble_eq_true rfl) ?_
      show Fx q_TJ_lane 5 sh 65 [some (.ref c), none, some (.int v2), some (.ref v3), some (.int v4), none, none] [.int r18, .ref (c + 32)] hp (some (.int res.2)) res.1
      refine Fx.run [(.ldc_w 283, 3, 0, 0, .int 2000000), (.iadd, 1, 0, 0, .null), (.i2l, 1, 0, 0, .null), (.bipush 6, 2, 0, 0, .int 6), (.lshl, 1, 0, 0, .null), (.iload 4, 2, 4, 0, .null), (.i2l, 1, 0, 0, .null), (.ladd, 1, 0, 0, .null)] 77 (by decide +kernel) ?_
      show Fx q_TJ_lane 5 sh 77 [some (.ref c), none, some (.int v2), some (.ref v3), some (.int v4), none, none] [.long (((Int32.toInt64 (r18 + 2000000)) <<< (Int32.toInt64 6 &&& 63)) + (Int32.toInt64 v4)), .ref (c + 32)] hp (some (.int res.2)) res.1
      replace hf := bnd hf
      obtain ⟨h20, hr19, hf⟩ := hf
      refine Fx.callV (rr := none) (hp1 := h20) [.long (((Int32.toInt64 (r18 + 2000000)) <<< (Int32.toInt64 6 &&& 63)) + (Int32.toInt64 v4))] [] lk_8_284 (by decide +kernel) (t_Co_put sh (c + 32) (hS.2.2.1) hp (((Int32.toInt64 (r18 + 2000000)) <<< (Int32.toInt64 6 &&& 63)) + (Int32.toInt64 v4)) h20 hr19) ⟨Nat.le_of_ble_eq_true rfl, Nat.le_of_ble_eq_true rfl⟩ (hS.2.2.1).1 (by decide) rfl (Nat.le_of_ble_eq_true rfl) ?_
      show Fx q_TJ_lane 5 sh 80 [some (.ref c), none, some (.int v2), some (.ref v3), some (.int v4), none, none] [] h20 (some (.int res.2)) res.1
      refine Fx.run [(.iinc 4 1, 3, 4, 0, .int 1)] 83 (by decide +kernel) ?_
      show Fx q_TJ_lane 5 sh 83 [some (.ref c), none, some (.int v2), some (.ref v3), some (.int (v4 + 1)), none, none] [] h20 (some (.int res.2)) res.1
      refine Fx.goto (-53) 30 (by decide +kernel) ?_
      obtain rfl := Option.some.inj hf
      have hk : Fx q_TJ_lane 5 sh 30 [some (.ref c), none, some (.int v2), some (.ref v3), some (.int (v4 + 1)), none, none] [] h20 (some (.int res.2)) res.1 := hk
      exact Fx.le hk (And.intro rfl (And.intro rfl (And.intro rfl (And.intro rfl trivial))))
set_option maxHeartbeats 4000000 in
set_option maxRecDepth 20000 in
theorem t_TJ_lane (sh : Shp) (c : Nat) (hS : S_TJ sh c) (hp : HP) (v1 : Int32) (v2 : Int32) (res : (HP × Int32)) (hf : f_TJ_lane c hp v1 v2 = some res) : Ex 5 q_TJ_lane sh [.ref c, .int v1, .int v2] hp (some (.int res.2)) res.1 := by
  refine Ex.of [some (.ref c), some (.int v1), some (.int v2), none, none, none, none] rfl (Nat.le_of_ble_eq_true rfl) (by decide +kernel) rfl ?_
  obtain ⟨t, hk⟩ : ∃ t, t = res := ⟨res, rfl⟩
  rw [← hk] at hf
  unfold f_TJ_lane at hf
  refine Fx.run [(.aload_n 0, 1, 0, 0, .null), (.iload_n 1, 1, 1, 0, .null), (.iload_n 2, 1, 2, 0, .null)] 3 (by decide +kernel) ?_
  show Fx q_TJ_lane 5 sh 3 [some (.ref c), some (.int v1), some (.int v2), none, none, none, none] [.int v2, .int v1, .ref c] hp (some (.int res.2)) res.1
  replace hf := bnd hf
  obtain ⟨r1, hr1, hf⟩ := hf
  refine Fx.callV (rr := (some (.int r1))) (hp1 := hp) [.int v1, .int v2] [] lk_8_189 (by decide +kernel) (t_TJ_isRow sh c (hS) hp v1 v2 r1 hr1) ⟨Nat.le_of_ble_eq_true rfl, Nat.le_of_ble_eq_true rfl⟩ (hS).1 (by decide) rfl (Nat.le_of_ble_eq_true rfl) ?_
  show Fx q_TJ_lane 5 sh 6 [some (.ref c), some (.int v1), some (.int v2), none, none, none, none] [.int r1] hp (some (.int res.2)) res.1
  refine Fx.if_ne (5) 11 9 (by decide +kernel) (fun b2 => ?_) (fun b2 => ?_)
  · replace hf := ifn b2 hf
    refine Fx.run [(.aload_n 0, 1, 0, 0, .null), (.getfield 12, 3, 8, 0, .ref 1), (.iload_n 1, 1, 1, 0, .null)] 16 (by decide +kernel) ?_
    show isK sh c 8 ∧ Fx q_TJ_lane 5 sh 16 [some (.ref c), some (.int v1), some (.int v2), none, none, none, none] [.int v1, .ref (c + 1)] hp (some (.int res.2)) res.1
    refine ⟨hS.1, ?_⟩
    replace hf := bnd hf
    obtain ⟨r3, hr3, hf⟩ := hf
    refine Fx.callV (rr := (some (.ref r3))) (hp1 := hp) [.int v1] [] lk_8_95 (by decide +kernel) (t_St_rowsOf sh (c + 1) (hS.2.1) hp v1 r3 hr3) ⟨Nat.le_of_ble_eq_true rfl, Nat.le_of_ble_eq_true rfl⟩ (hS.2.1).1 (by decide) rfl (Nat.le_of_ble_eq_true rfl) ?_
    show Fx q_TJ_lane 5 sh 19 [some (.ref c), some (.int v1), some (.int v2), none, none, none, none] [.ref r3] hp (some (.int res.2)) res.1
    refine Fx.run [(.astore_n 3, 1, 3, 0, .null), (.aload_n 0, 1, 0, 0, .null), (.getfield 19, 3, 8, 2, .ref 32)] 24 (by decide +kernel) ?_
    show isK sh c 8 ∧ Fx q_TJ_lane 5 sh 24 [some (.ref c), some (.int v1), some (.int v2), some (.ref r3), none, none, none] [.ref (c + 32)] hp (some (.int res.2)) res.1
    refine ⟨hS.1, ?_⟩
    replace hf := bnd hf
    obtain ⟨h5, hr4, hf⟩ := hf
    refine Fx.callV (rr := none) (hp1 := h5) [] [] lk_8_280 (by decide +kernel) (t_Co_empty sh (c + 32) (hS.2.2.1) hp h5 hr4) ⟨Nat.le_of_ble_eq_true rfl, Nat.le_of_ble_eq_true rfl⟩ (hS.2.2.1).1 (by decide) rfl (Nat.le_of_ble_eq_true rfl) ?_
    show Fx q_TJ_lane 5 sh 27 [some (.ref c), some (.int v1), some (.int v2), some (.ref r3), none, none, none] [] h5 (some (.int res.2)) res.1
    refine Fx.run [(.iconst 0, 1, 0, 0, .int 0), (.istore 4, 2, 4, 0, .null)] 30 (by decide +kernel) ?_
    show Fx q_TJ_lane 5 sh 30 [some (.ref c), some (.int v1), some (.int v2), some (.ref r3), some (.int 0), none, none] [] h5 (some (.int res.2)) res.1
    have hl := t_TJ_lane_l30 sh c hS h5 v2 r3 ((rowsOf_S hS.2.1 hr3)) res (h5, 0) _ hf hk
    have hl : Fx q_TJ_lane 5 sh 30 [some (.ref c), none, some (.int v2), some (.ref r3), some (.int 0), none, none] [] h5 (some (.int res.2)) res.1 := hl
    exact Fx.le hl (And.intro rfl (And.intro rfl (And.intro rfl (And.intro rfl trivial))))
  · replace hf := ifp b2 hf
    refine Fx.run [(.iconst (-1), 1, 0, 0, .int (-1))] 10 (by decide +kernel) ?_
    show Fx q_TJ_lane 5 sh 10 [some (.ref c), some (.int v1), some (.int v2), none, none, none, none] [.int (-1)] hp (some (.int res.2)) res.1
    obtain rfl := Option.some.inj hf
    have hk : (hp, (-1)) = res := hk
    subst hk
    exact Fx.iret (by decide +kernel) rfl
abbrev P_TJ_chain_36 (sh : Shp) (c : Nat) (v2 : Int32) (v3 : Int32) (v4 : Nat) (res : (HP × Int32)) : (HP × Int32) → Prop := fun s => Fx q_TJ_chain 3 sh 36 [some (.ref c), none, some (.int v2), some (.int v3), some (.ref v4), some (.int s.2), none, none, none] [] s.1 (some (.int res.2)) res.1
abbrev P_TJ_chain_108 (sh : Shp) (c : Nat) (hp : HP) (v3 : Int32) (v4 : Nat) (res : (HP × Int32)) : (Int32 × Int32 × Int32) → Prop := fun s => Fx q_TJ_chain 3 sh 108 [some (.ref c), none, none, some (.int v3), some (.ref v4), some (.int s.1), some (.int s.2.1), some (.int s.2.2), none] [] hp (some (.int res.2)) res.1
set_option maxHeartbeats 4000000 in
set_option maxRecDepth 20000 in
theorem t_TJ_chain_l108 (sh : Shp) (c : Nat) (hS : S_TJ sh c) (hp : HP) (v3 : Int32) (v4 : Nat) (hv4 : S_Ro sh v4) (res : (HP × Int32)) : ∀ (s : (Int32 × Int32 × Int32)) (t : (HP × Int32)), f_TJ_chain_l108 c hp v3 v4 s = some t → (fun v => v = res) t → P_TJ_chain_108 sh c hp v3 v4 res s := by
  refine loop_ind (P_TJ_chain_108 sh c hp v3 v4 res) (fun v => v = res) ?_
  intro s t hf hk
  obtain ⟨v5, v6, v7⟩ := s
  replace hf : f_TJ_chain_b108 c hp v3 v4 v5 v6 v7 = some t := hf
  show Fx q_TJ_chain 3 sh 108 [some (.ref c), none, none, some (.int v3), some (.ref v4), some (.int v5), some (.int v6), some (.int v7), none] [] hp (some (.int res.2)) res.1
  unfold f_TJ_chain_b108 at hf
  refine Fx.run [(.iload 7, 2, 7, 0, .null), (.aload_n 0, 1, 0, 0, .null), (.getfield 19, 3, 8, 2, .ref 32), (.getfield 291, 3, 0, 1, .null)] 117 (by decide +kernel) ?_
  show isK sh c 8 ∧ isK sh (c + 32) 0 ∧ Fx q_TJ_chain 3 sh 117 [some (.ref c), none, none, some (.int v3), some (.ref v4), some (.int v5), some (.int v6), some (.int v7), none] [.int (hp.1 (c + 32) 1), .int v7] hp (some (.int res.2)) res.1
  refine ⟨hS.1, hS.2.2.1.1, ?_⟩
  refine Fx.icmp_ge (58) 175 120 (by decide +kernel) (fun b11 => ?_) (fun b11 => ?_)
  · replace hf := ifp b11 hf
    replace hf := mpd hf
    obtain ⟨t, hf, rfl⟩ := hf
    refine Fx.run [(.iload_n 3, 1, 3, 0, .null), (.iconst (-1), 1, 0, 0, .int (-1))] 177 (by decide +kernel) ?_
    show Fx q_TJ_chain 3 sh 177 [some (.ref c), none, none, some (.int v3), some (.ref v4), some (.int v5), some (.int v6), some (.int v7), none] [.int (-1), .int v3] hp (some (.int res.2)) res.1
    refine Fx.icmp_ne (8) 185 180 (by decide +kernel) (fun b12 => ?_) (fun b12 => ?_)
    · replace hf := ifn b12 hf
      refine Fx.run [(.iconst (-1), 1, 0, 0, .int (-1))] 186 (by decide +kernel) ?_
      show Fx q_TJ_chain 3 sh 186 [some (.ref c), none, none, some (.int v3), some (.ref v4), some (.int v5), some (.int v6), some (.int v7), none] [.int (-1)] hp (some (.int res.2)) res.1
      obtain rfl := Option.some.inj hf
      have hk : (hp, (-1)) = res := hk
      subst hk
      exact Fx.iret (by decide +kernel) rfl
    · replace hf := ifp b12 hf
      refine Fx.run [(.iload 5, 2, 5, 0, .null)] 182 (by decide +kernel) ?_
      show Fx q_TJ_chain 3 sh 182 [some (.ref c), none, none, some (.int v3), some (.ref v4), some (.int v5), some (.int v6), some (.int v7), none] [.int v5] hp (some (.int res.2)) res.1
      refine Fx.goto (4) 186 (by decide +kernel) ?_
      obtain rfl := Option.some.inj hf
      have hk : (hp, v5) = res := hk
      subst hk
      exact Fx.iret (by decide +kernel) rfl
  · replace hf := ifn b11 hf
    refine Fx.run [(.aload_n 0, 1, 0, 0, .null), (.getfield 19, 3, 8, 2, .ref 32), (.iload 7, 2, 7, 0, .null)] 126 (by decide +kernel) ?_
    show isK sh c 8 ∧ Fx q_TJ_chain 3 sh 126 [some (.ref c), none, none, some (.int v3), some (.ref v4), some (.int v5), some (.int v6), some (.int v7), none] [.int v7, .ref (c + 32)] hp (some (.int res.2)) res.1
    refine ⟨hS.1, ?_⟩
    replace hf := bnd hf
    obtain ⟨r13, hr13, hf⟩ := hf
    refine Fx.callV (rr := (some (.long r13))) (hp1 := hp) [.int v7] [] lk_8_292 (by decide +kernel) (t_Co_at sh (c + 32) (hS.2.2.1) hp v7 r13 hr13) ⟨Nat.le_of_ble_eq_true rfl, Nat.le_of_ble_eq_true rfl⟩ (hS.2.2.1).1 (by decide) rfl (Nat.le_of_ble_eq_true rfl) ?_
    show Fx q_TJ_chain 3 sh 129 [some (.ref c), none, none, some (.int v3), some (.ref v4), some (.int v5), some (.int v6), some (.int v7), none] [.long r13] hp (some (.int res.2)) res.1
    refine Fx.run [(.ldc2_w 295, 3, 0, 0, .long 63), (.land, 1, 0, 0, .null), (.l2i, 1, 0, 0, .null), (.istore 8, 2, 8, 0, .null), (.aload 4, 2, 4, 0, .null), (.iload 8, 2, 8, 0, .null)] 140 (by decide +kernel) ?_
    show Fx q_TJ_chain 3 sh 140 [some (.ref c), none, none, some (.int v3), some (.ref v4), some (.int v5), some (.int v6), some (.int v7), some (.int (Int64.toInt32 (r13 &&& 63)))] [.int (Int64.toInt32 (r13 &&& 63)), .ref v4] hp (some (.int res.2)) res.1
    replace hf := bnd hf
    obtain ⟨r14, hr14, hf⟩ := hf
    refine Fx.callV (rr := (some (.int r14))) (hp1 := hp) [.int (Int64.toInt32 (r13 &&& 63))] [] lk_8_231 (by decide +kernel) (t_Ro_startPlace sh v4 (hv4) hp (Int64.toInt32 (r13 &&& 63)) r14 hr14) ⟨Nat.le_of_ble_eq_true rfl, Nat.le_of_ble_eq_true rfl⟩ (hv4).1 (by decide) rfl (Nat.le_of_ble_eq_true rfl) ?_
    show Fx q_TJ_chain 3 sh 143 [some (.ref c), none, none, some (.int v3), some (.ref v4), some (.int v5), some (.int v6), some (.int v7), some (.int (Int64.toInt32 (r13 &&& 63)))] [.int r14] hp (some (.int res.2)) res.1
    refine Fx.run [(.iload 6, 2, 6, 0, .null)] 145 (by decide +kernel) ?_
    show Fx q_TJ_chain 3 sh 145 [some (.ref c), none, none, some (.int v3), some (.ref v4), some (.int v5), some (.int v6), some (.int v7), some (.int (Int64.toInt32 (r13 &&& 63)))] [.int v6, .int r14] hp (some (.int res.2)) res.1
    refine Fx.icmp_lt (24) 169 148 (by decide +kernel) (fun b15 => ?_) (fun b15 => ?_)
    · replace hf := ifp b15 hf
      refine Fx.run [(.iinc 7 1, 3, 7, 0, .int 1)] 172 (by decide +kernel) ?_
      show Fx q_TJ_chain 3 sh 172 [some (.ref c), none, none, some (.int v3), some (.ref v4), some (.int v5), some (.int v6), some (.int (v7 + 1)), some (.int (Int64.toInt32 (r13 &&& 63)))] [] hp (some (.int res.2)) res.1
      refine Fx.goto (-64) 108 (by decide +kernel) ?_
      obtain rfl := Option.some.inj hf
      have hk : Fx q_TJ_chain 3 sh 108 [some (.ref c), none, none, some (.int v3), some (.ref v4), some (.int v5), some (.int v6), some (.int (v7 + 1)), none] [] hp (some (.int res.2)) res.1 := hk
      exact Fx.le hk (And.intro rfl (And.intro rfl (And.intro rfl (And.intro rfl (And.intro rfl (And.intro rfl trivial))))))
    · replace hf := ifn b15 hf
      refine Fx.run [(.iload 5, 2, 5, 0, .null), (.iload_n 3, 1, 3, 0, .null)] 151 (by decide +kernel) ?_
      show Fx q_TJ_chain 3 sh 151 [some (.ref c), none, none, some (.int v3), some (.ref v4), some (.int v5), some (.int v6), some (.int v7), some (.int (Int64.toInt32 (r13 &&& 63)))] [.int v3, .int v5] hp (some (.int res.2)) res.1
      refine Fx.icmp_ne (6) 157 154 (by decide +kernel) (fun b16 => ?_) (fun b16 => ?_)
      · replace hf := ifn b16 hf
        refine Fx.run [(.iinc 5 1, 3, 5, 0, .int 1), (.aload 4, 2, 4, 0, .null), (.iload 8, 2, 8, 0, .null)] 164 (by decide +kernel) ?_
        show Fx q_TJ_chain 3 sh 164 [some (.ref c), none, none, some (.int v3), some (.ref v4), some (.int (v5 + 1)), some (.int v6), some (.int v7), some (.int (Int64.toInt32 (r13 &&& 63)))] [.int (Int64.toInt32 (r13 &&& 63)), .ref v4] hp (some (.int res.2)) res.1
        replace hf := bnd hf
        obtain ⟨r17, hr17, hf⟩ := hf
        refine Fx.callV (rr := (some (.int r17))) (hp1 := hp) [.int (Int64.toInt32 (r13 &&& 63))] [] lk_8_307 (by decide +kernel) (t_Ro_endPlace sh v4 (hv4) hp (Int64.toInt32 (r13 &&& 63)) r17 hr17) ⟨Nat.le_of_ble_eq_true rfl, Nat.le_of_ble_eq_true rfl⟩ (hv4).1 (by decide) rfl (Nat.le_of_ble_eq_true rfl) ?_
        show Fx q_TJ_chain 3 sh 167 [some (.ref c), none, none, some (.int v3), some (.ref v4), some (.int (v5 + 1)), some (.int v6), some (.int v7), some (.int (Int64.toInt32 (r13 &&& 63)))] [.int r17] hp (some (.int res.2)) res.1
        refine Fx.run [(.istore 6, 2, 6, 0, .null), (.iinc 7 1, 3, 7, 0, .int 1)] 172 (by decide +kernel) ?_
        show Fx q_TJ_chain 3 sh 172 [some (.ref c), none, none, some (.int v3), some (.ref v4), some (.int (v5 + 1)), some (.int r17), some (.int (v7 + 1)), some (.int (Int64.toInt32 (r13 &&& 63)))] [] hp (some (.int res.2)) res.1
        refine Fx.goto (-64) 108 (by decide +kernel) ?_
        obtain rfl := Option.some.inj hf
        have hk : Fx q_TJ_chain 3 sh 108 [some (.ref c), none, none, some (.int v3), some (.ref v4), some (.int (v5 + 1)), some (.int r17), some (.int (v7 + 1)), none] [] hp (some (.int res.2)) res.1 := hk
        exact Fx.le hk (And.intro rfl (And.intro rfl (And.intro rfl (And.intro rfl (And.intro rfl (And.intro rfl trivial))))))
      · replace hf := ifp b16 hf
        replace hf := mpd hf
        obtain ⟨t, hf, rfl⟩ := hf
        refine Fx.run [(.iload 8, 2, 8, 0, .null)] 156 (by decide +kernel) ?_
        show Fx q_TJ_chain 3 sh 156 [some (.ref c), none, none, some (.int v3), some (.ref v4), some (.int v5), some (.int v6), some (.int v7), some (.int (Int64.toInt32 (r13 &&& 63)))] [.int (Int64.toInt32 (r13 &&& 63))] hp (some (.int res.2)) res.1
        obtain rfl := Option.some.inj hf
        have hk : (hp, (Int64.toInt32 (r13 &&& 63))) = res := hk
        subst hk
        exact Fx.iret (by decide +kernel) rfl
set_option maxHeartbeats 4000000 in
set_option maxRecDepth 20000 in
theorem t_TJ_chain_l36 (sh : Shp) (c : Nat) (hS : S_TJ sh c) (hp : HP) (v2 : Int32) (v3 : Int32) (v4 : Nat) (hv4 : S_Ro sh v4) (res : (HP × Int32)) : ∀ (s : (HP × Int32)) (t : (HP × Int32)), f_TJ_chain_l36 c hp v2 v3 v4 s = some t → (fun v => v = res) t → P_TJ_chain_36 sh c v2 v3 v4 res s := by
  refine loop_ind (P_TJ_chain_36 sh c v2 v3 v4 res) (fun v => v = res) ?_
  intro s t hf hk
  obtain ⟨hp, v5⟩ := s
  replace hf : f_TJ_chain_b36 c hp v2 v3 v4 v5 = some t := hf
  show Fx q_TJ_chain 3 sh 36 [some (.ref c), none, some (.int v2), some (.int v3), some (.ref v4), some (.int v5), none, none, none] [] hp (some (.int res.2)) res.1
  unfold f_TJ_chain_b36 at hf
  refine Fx.run [(.iload 5, 2, 5, 0, .null), (.aload 4, 2, 4, 0, .null), (.getfield 88, 3, 4, 5, .null)] 43 (by decide +kernel) ?_
  show isK sh v4 4 ∧ Fx q_TJ_chain 3 sh 43 [some (.ref c), none, some (.int v2), some (.int v3), some (.ref v4), some (.int v5), none, none, none] [.int (hp.1 v4 5), .int v5] hp (some (.int res.2)) res.1
  refine ⟨hv4.1, ?_⟩
  refine Fx.icmp_ge (47) 90 46 (by decide +kernel) (fun b8 => ?_) (fun b8 => ?_)
  · replace hf := ifp b8 hf
    replace hf := mpd hf
    obtain ⟨t, hf, rfl⟩ := hf
    refine Fx.run [(.aload_n 0, 1, 0, 0, .null), (.getfield 19, 3, 8, 2, .ref 32)] 94 (by decide +kernel) ?_
    show isK sh c 8 ∧ Fx q_TJ_chain 3 sh 94 [some (.ref c), none, some (.int v2), some (.int v3), some (.ref v4), some (.int v5), none, none, none] [.ref (c + 32)] hp (some (.int res.2)) res.1
    refine ⟨hS.1, ?_⟩
    replace hf := bnd hf
    obtain ⟨h10, hr9, hf⟩ := hf
    refine Fx.callV (rr := none) (hp1 := h10) [] [] lk_8_288 (by decide +kernel) (t_Co_sort sh (c + 32) (hS.2.2.1) hp h10 hr9) ⟨Nat.le_of_ble_eq_true rfl, Nat.le_of_ble_eq_true rfl⟩ (hS.2.2.1).1 (by decide) rfl (Nat.le_of_ble_eq_true rfl) ?_
    show Fx q_TJ_chain 3 sh 97 [some (.ref c), none, some (.int v2), some (.int v3), some (.ref v4), some (.int v5), none, none, none] [] h10 (some (.int res.2)) res.1
    refine Fx.run [(.iconst 0, 1, 0, 0, .int 0), (.istore 5, 2, 5, 0, .null), (.ldc_w 337, 3, 0, 0, .int (-2000000)), (.istore 6, 2, 6, 0, .null), (.iconst 0, 1, 0, 0, .int 0), (.istore 7, 2, 7, 0, .null)] 108 (by decide +kernel) ?_
    show Fx q_TJ_chain 3 sh 108 [some (.ref c), none, some (.int v2), some (.int v3), some (.ref v4), some (.int 0), some (.int (-2000000)), some (.int 0), none] [] h10 (some (.int res.2)) res.1
    have hl := t_TJ_chain_l108 sh c hS h10 v3 v4 (hv4) res (0, (-2000000), 0) _ hf hk
    have hl : Fx q_TJ_chain 3 sh 108 [some (.ref c), none, none, some (.int v3), some (.ref v4), some (.int 0), some (.int (-2000000)), some (.int 0), none] [] h10 (some (.int res.2)) res.1 := hl
    exact Fx.le hl (And.intro rfl (And.intro rfl (And.intro rfl (And.intro rfl (And.intro rfl (And.intro rfl trivial))))))
  · replace hf := ifn b8 hf
    replace hf := gd hf
    obtain ⟨g18, hf⟩ := hf
    refine Fx.run [(.aload 4, 2, 4, 0, .null), (.getfield 102, 3, 4, 1, .ref 2), (.iload 5, 2, 5, 0, .null), (.iaload, 1, 40, 0, .null), (.iload_n 2, 1, 2, 0, .null)] 55 (by decide +kernel) ?_
    show isK sh v4 4 ∧ (isA sh (v4 + 2) 10 40 ∧ inb v5 40) ∧ Fx q_TJ_chain 3 sh 55 [some (.ref c), none, some (.int v2), some (.int v3), some (.ref v4), some (.int v5), none, none, none] [.int v2, .int (hp.1 (v4 + 2) (ix v5))] hp (some (.int res.2)) res.1
    refine ⟨hv4.1, ⟨hv4.2.2.1, g18⟩, ?_⟩
    refine Fx.icmp_ne (29) 84 58 (by decide +kernel) (fun b19 => ?_) (fun b19 => ?_)
    · replace hf := ifn b19 hf
      refine Fx.run [(.iinc 5 1, 3, 5, 0, .int 1)] 87 (by decide +kernel) ?_
      show Fx q_TJ_chain 3 sh 87 [some (.ref c), none, some (.int v2), some (.int v3), some (.ref v4), some (.int (v5 + 1)), none, none, none] [] hp (some (.int res.2)) res.1
      refine Fx.goto (-51) 36 (by decide +kernel) ?_
      obtain rfl := Option.some.inj hf
      have hk : Fx q_TJ_chain 3 sh 36 [some (.ref c), none, some (.int v2), some (.int v3), some (.ref v4), some (.int (v5 + 1)), none, none, none] [] hp (some (.int res.2)) res.1 := hk
      exact Fx.le hk (And.intro rfl (And.intro rfl (And.intro rfl (And.intro rfl (And.intro rfl trivial)))))
    · replace hf := ifp b19 hf
      refine Fx.run [(.aload_n 0, 1, 0, 0, .null), (.getfield 19, 3, 8, 2, .ref 32), (.aload 4, 2, 4, 0, .null), (.iload 5, 2, 5, 0, .null)] 66 (by decide +kernel) ?_
      show isK sh c 8 ∧ Fx q_TJ_chain 3 sh 66 [some (.ref c), none, some (.int v2), some (.int v3), some (.ref v4), some (.int v5), none, none, none] [.int v5, .ref v4, .ref (c + 32)] hp (some (.int res.2)) res.1
      refine ⟨hS.1, ?_⟩
      replace hf := bnd hf
      obtain ⟨r20, hr20, hf⟩ := hf
      refine Fx.callV (rr := (some (.int r20))) (hp1 := hp) [.int v5] [.ref (c + 32)] lk_8_307 (by decide +kernel) (t_Ro_endPlace sh v4 (hv4) hp v5 r20 hr20) ⟨Nat.le_of_ble_eq_true rfl, Nat.le_of_ble_eq_true rfl⟩ (hv4).1 (by decide) rfl (Nat.le_of_ble_eq_true rfl) ?_
      show Fx q_TJ_chain 3 sh 69 [some (.ref c), none, some (.int v2), some (.int v3), some (.ref v4), some (.int v5), none, none, none] [.int r20, .ref (c + 32)] hp (some (.int res.2)) res.1
      refine Fx.run [(.ldc_w 283, 3, 0, 0, .int 2000000), (.iadd, 1, 0, 0, .null), (.i2l, 1, 0, 0, .null), (.bipush 6, 2, 0, 0, .int 6), (.lshl, 1, 0, 0, .null), (.iload 5, 2, 5, 0, .null), (.i2l, 1, 0, 0, .null), (.ladd, 1, 0, 0, .null)] 81 (by decide +kernel) ?_
      show Fx q_TJ_chain 3 sh 81 [some (.ref c), none, some (.int v2), some (.int v3), some (.ref v4), some (.int v5), none, none, none] [.long (((Int32.toInt64 (r20 + 2000000)) <<< (Int32.toInt64 6 &&& 63)) + (Int32.toInt64 v5)), .ref (c + 32)] hp (some (.int res.2)) res.1
      replace hf := bnd hf
      obtain ⟨h22, hr21, hf⟩ := hf
      refine Fx.callV (rr := none) (hp1 := h22) [.long (((Int32.toInt64 (r20 + 2000000)) <<< (Int32.toInt64 6 &&& 63)) + (Int32.toInt64 v5))] [] lk_8_284 (by decide +kernel) (t_Co_put sh (c + 32) (hS.2.2.1) hp (((Int32.toInt64 (r20 + 2000000)) <<< (Int32.toInt64 6 &&& 63)) + (Int32.toInt64 v5)) h22 hr21) ⟨Nat.le_of_ble_eq_true rfl, Nat.le_of_ble_eq_true rfl⟩ (hS.2.2.1).1 (by decide) rfl (Nat.le_of_ble_eq_true rfl) ?_
      show Fx q_TJ_chain 3 sh 84 [some (.ref c), none, some (.int v2), some (.int v3), some (.ref v4), some (.int v5), none, none, none] [] h22 (some (.int res.2)) res.1
      refine Fx.run [(.iinc 5 1, 3, 5, 0, .int 1)] 87 (by decide +kernel) ?_
      show Fx q_TJ_chain 3 sh 87 [some (.ref c), none, some (.int v2), some (.int v3), some (.ref v4), some (.int (v5 + 1)), none, none, none] [] h22 (some (.int res.2)) res.1
      refine Fx.goto (-51) 36 (by decide +kernel) ?_
      obtain rfl := Option.some.inj hf
      have hk : Fx q_TJ_chain 3 sh 36 [some (.ref c), none, some (.int v2), some (.int v3), some (.ref v4), some (.int (v5 + 1)), none, none, none] [] h22 (some (.int res.2)) res.1 := hk
      exact Fx.le hk (And.intro rfl (And.intro rfl (And.intro rfl (And.intro rfl (And.intro rfl trivial)))))
set_option maxHeartbeats 4000000 in
set_option maxRecDepth 20000 in
theorem t_TJ_chain (sh : Shp) (c : Nat) (hS : S_TJ sh c) (hp : HP) (v1 : Int32) (v2 : Int32) (v3 : Int32) (res : (HP × Int32)) (hf : f_TJ_chain c hp v1 v2 v3 = some res) : Ex 3 q_TJ_chain sh [.ref c, .int v1, .int v2, .int v3] hp (some (.int res.2)) res.1 := by
  refine Ex.of [some (.ref c), some (.int v1), some (.int v2), some (.int v3), none, none, none, none, none] rfl (Nat.le_of_ble_eq_true rfl) (by decide +kernel) rfl ?_
  obtain ⟨t, hk⟩ : ∃ t, t = res := ⟨res, rfl⟩
  rw [← hk] at hf
  unfold f_TJ_chain at hf
  refine Fx.run [(.iload_n 1, 1, 1, 0, .null)] 1 (by decide +kernel) ?_
  show Fx q_TJ_chain 3 sh 1 [some (.ref c), some (.int v1), some (.int v2), some (.int v3), none, none, none, none, none] [.int v1] hp (some (.int res.2)) res.1
  replace hf := bnd hf
  obtain ⟨r1, hr1, hf⟩ := hf
  refine Fx.callS (rr := (some (.int r1))) (hp1 := hp) [.int v1] [] lk_8_91 (by decide +kernel) (t_TJ_isSide sh hp v1 r1 hr1) ⟨Nat.le_of_ble_eq_true rfl, Nat.le_of_ble_eq_true rfl⟩ rfl (Nat.le_of_ble_eq_true rfl) ?_
  show Fx q_TJ_chain 3 sh 4 [some (.ref c), some (.int v1), some (.int v2), some (.int v3), none, none, none, none, none] [.int r1] hp (some (.int res.2)) res.1
  refine Fx.if_eq (10) 14 7 (by decide +kernel) (fun b2 => ?_) (fun b2 => ?_)
  · replace hf := ifp b2 hf
    refine Fx.run [(.iconst (-1), 1, 0, 0, .int (-1))] 15 (by decide +kernel) ?_
    show Fx q_TJ_chain 3 sh 15 [some (.ref c), some (.int v1), some (.int v2), some (.int v3), none, none, none, none, none] [.int (-1)] hp (some (.int res.2)) res.1
    obtain rfl := Option.some.inj hf
    have hk : (hp, (-1)) = res := hk
    subst hk
    exact Fx.iret (by decide +kernel) rfl
  · replace hf := ifn b2 hf
    refine Fx.run [(.iload_n 2, 1, 2, 0, .null)] 8 (by decide +kernel) ?_
    show Fx q_TJ_chain 3 sh 8 [some (.ref c), some (.int v1), some (.int v2), some (.int v3), none, none, none, none, none] [.int v2] hp (some (.int res.2)) res.1
    replace hf := bnd hf
    obtain ⟨r3, hr3, hf⟩ := hf
    refine Fx.callS (rr := (some (.int r3))) (hp1 := hp) [.int v2] [] lk_8_249 (by decide +kernel) (t_TJ_isKey sh hp v2 r3 hr3) ⟨Nat.le_of_ble_eq_true rfl, Nat.le_of_ble_eq_true rfl⟩ rfl (Nat.le_of_ble_eq_true rfl) ?_
    show Fx q_TJ_chain 3 sh 11 [some (.ref c), some (.int v1), some (.int v2), some (.int v3), none, none, none, none, none] [.int r3] hp (some (.int res.2)) res.1
    refine Fx.if_ne (5) 16 14 (by decide +kernel) (fun b4 => ?_) (fun b4 => ?_)
    · replace hf := ifn b4 hf
      refine Fx.run [(.aload_n 0, 1, 0, 0, .null), (.getfield 12, 3, 8, 0, .ref 1), (.iload_n 1, 1, 1, 0, .null)] 21 (by decide +kernel) ?_
      show isK sh c 8 ∧ Fx q_TJ_chain 3 sh 21 [some (.ref c), some (.int v1), some (.int v2), some (.int v3), none, none, none, none, none] [.int v1, .ref (c + 1)] hp (some (.int res.2)) res.1
      refine ⟨hS.1, ?_⟩
      replace hf := bnd hf
      obtain ⟨r5, hr5, hf⟩ := hf
      refine Fx.callV (rr := (some (.ref r5))) (hp1 := hp) [.int v1] [] lk_8_95 (by decide +kernel) (t_St_rowsOf sh (c + 1) (hS.2.1) hp v1 r5 hr5) ⟨Nat.le_of_ble_eq_true rfl, Nat.le_of_ble_eq_true rfl⟩ (hS.2.1).1 (by decide) rfl (Nat.le_of_ble_eq_true rfl) ?_
      show Fx q_TJ_chain 3 sh 24 [some (.ref c), some (.int v1), some (.int v2), some (.int v3), none, none, none, none, none] [.ref r5] hp (some (.int res.2)) res.1
      refine Fx.run [(.astore 4, 2, 4, 0, .null), (.aload_n 0, 1, 0, 0, .null), (.getfield 19, 3, 8, 2, .ref 32)] 30 (by decide +kernel) ?_
      show isK sh c 8 ∧ Fx q_TJ_chain 3 sh 30 [some (.ref c), some (.int v1), some (.int v2), some (.int v3), some (.ref r5), none, none, none, none] [.ref (c + 32)] hp (some (.int res.2)) res.1
      refine ⟨hS.1, ?_⟩
      replace hf := bnd hf
      obtain ⟨h7, hr6, hf⟩ := hf
      refine Fx.callV (rr := none) (hp1 := h7) [] [] lk_8_280 (by decide +kernel) (t_Co_empty sh (c + 32) (hS.2.2.1) hp h7 hr6) ⟨Nat.le_of_ble_eq_true rfl, Nat.le_of_ble_eq_true rfl⟩ (hS.2.2.1).1 (by decide) rfl (Nat.le_of_ble_eq_true rfl) ?_
      show Fx q_TJ_chain 3 sh 33 [some (.ref c), some (.int v1), some (.int v2), some (.int v3), some (.ref r5), none, none, none, none] [] h7 (some (.int res.2)) res.1
      refine Fx.run [(.iconst 0, 1, 0, 0, .int 0), (.istore 5, 2, 5, 0, .null)] 36 (by decide +kernel) ?_
      show Fx q_TJ_chain 3 sh 36 [some (.ref c), some (.int v1), some (.int v2), some (.int v3), some (.ref r5), some (.int 0), none, none, none] [] h7 (some (.int res.2)) res.1
      have hl := t_TJ_chain_l36 sh c hS h7 v2 v3 r5 ((rowsOf_S hS.2.1 hr5)) res (h7, 0) _ hf hk
      have hl : Fx q_TJ_chain 3 sh 36 [some (.ref c), none, some (.int v2), some (.int v3), some (.ref r5), some (.int 0), none, none, none] [] h7 (some (.int res.2)) res.1 := hl
      exact Fx.le hl (And.intro rfl (And.intro rfl (And.intro rfl (And.intro rfl (And.intro rfl trivial)))))
    · replace hf := ifp b4 hf
      refine Fx.run [(.iconst (-1), 1, 0, 0, .int (-1))] 15 (by decide +kernel) ?_
      show Fx q_TJ_chain 3 sh 15 [some (.ref c), some (.int v1), some (.int v2), some (.int v3), none, none, none, none, none] [.int (-1)] hp (some (.int res.2)) res.1
      obtain rfl := Option.some.inj hf
      have hk : (hp, (-1)) = res := hk
      subst hk
      exact Fx.iret (by decide +kernel) rfl
