set_option maxHeartbeats 4000000 in
set_option maxRecDepth 20000 in
theorem t_Mo_isIn (sh : Shp) (hp : HP) (v0 : Int32) (v1 : Int32) (v2 : Int32) (res : Int32) (hf : f_Mo_isIn v0 v1 v2 = some res) : Ex 1 q_Mo_isIn sh [.int v0, .int v1, .int v2] hp (some (.int res)) hp := by
  refine Ex.of [some (.int v0), some (.int v1), some (.int v2)] rfl (Nat.le_of_ble_eq_true rfl) (by decide +kernel) rfl ?_
  obtain ⟨t, hk⟩ : ∃ t, t = res := ⟨res, rfl⟩
  rw [← hk] at hf
  unfold f_Mo_isIn at hf
  refine Fx.run [(.iload_n 0, 1, 0, 0, .null), (.iload_n 1, 1, 1, 0, .null)] 2 (by decide +kernel) ?_
  show Fx q_Mo_isIn 1 sh 2 [some (.int v0), some (.int v1), some (.int v2)] [.int v1, .int v0] hp (some (.int res)) hp
  refine Fx.icmp_lt (12) 14 5 (by decide +kernel) (fun b1 => ?_) (fun b1 => ?_)
  · replace hf := ifp b1 hf
    refine Fx.run [(.iconst 0, 1, 0, 0, .int 0)] 15 (by decide +kernel) ?_
    show Fx q_Mo_isIn 1 sh 15 [some (.int v0), some (.int v1), some (.int v2)] [.int 0] hp (some (.int res)) hp
    obtain rfl := Option.some.inj hf
    have hk : 0 = res := hk
    subst hk
    exact Fx.zret (by decide +kernel) rfl (Or.inl rfl)
  · replace hf := ifn b1 hf
    refine Fx.run [(.iload_n 0, 1, 0, 0, .null), (.iload_n 2, 1, 2, 0, .null)] 7 (by decide +kernel) ?_
    show Fx q_Mo_isIn 1 sh 7 [some (.int v0), some (.int v1), some (.int v2)] [.int v2, .int v0] hp (some (.int res)) hp
    refine Fx.icmp_gt (7) 14 10 (by decide +kernel) (fun b2 => ?_) (fun b2 => ?_)
    · replace hf := ifp b2 hf
      refine Fx.run [(.iconst 0, 1, 0, 0, .int 0)] 15 (by decide +kernel) ?_
      show Fx q_Mo_isIn 1 sh 15 [some (.int v0), some (.int v1), some (.int v2)] [.int 0] hp (some (.int res)) hp
      obtain rfl := Option.some.inj hf
      have hk : 0 = res := hk
      subst hk
      exact Fx.zret (by decide +kernel) rfl (Or.inl rfl)
    · replace hf := ifn b2 hf
      refine Fx.run [(.iconst 1, 1, 0, 0, .int 1)] 11 (by decide +kernel) ?_
      show Fx q_Mo_isIn 1 sh 11 [some (.int v0), some (.int v1), some (.int v2)] [.int 1] hp (some (.int res)) hp
      refine Fx.goto (4) 15 (by decide +kernel) ?_
      obtain rfl := Option.some.inj hf
      have hk : 1 = res := hk
      subst hk
      exact Fx.zret (by decide +kernel) rfl (Or.inr rfl)
set_option maxHeartbeats 4000000 in
set_option maxRecDepth 20000 in
theorem t_Mo_has (sh : Shp) (hp : HP) (v0 : Int32) (v1 : Int32) (res : Int32) (hf : f_Mo_has v0 v1 = some res) : Ex 1 q_Mo_has sh [.int v0, .int v1] hp (some (.int res)) hp := by
  refine Ex.of [some (.int v0), some (.int v1)] rfl (Nat.le_of_ble_eq_true rfl) (by decide +kernel) rfl ?_
  obtain ⟨t, hk⟩ : ∃ t, t = res := ⟨res, rfl⟩
  rw [← hk] at hf
  unfold f_Mo_has at hf
  refine Fx.run [(.iload_n 0, 1, 0, 0, .null), (.iload_n 1, 1, 1, 0, .null), (.ishr, 1, 0, 0, .null), (.iconst 1, 1, 0, 0, .int 1), (.iand, 1, 0, 0, .null), (.iconst 1, 1, 0, 0, .int 1)] 6 (by decide +kernel) ?_
  show Fx q_Mo_has 1 sh 6 [some (.int v0), some (.int v1)] [.int 1, .int ((v0 >>> (v1 &&& 31)) &&& 1)] hp (some (.int res)) hp
  refine Fx.icmp_ne (7) 13 9 (by decide +kernel) (fun b1 => ?_) (fun b1 => ?_)
  · replace hf := ifn b1 hf
    refine Fx.run [(.iconst 0, 1, 0, 0, .int 0)] 14 (by decide +kernel) ?_
    show Fx q_Mo_has 1 sh 14 [some (.int v0), some (.int v1)] [.int 0] hp (some (.int res)) hp
    obtain rfl := Option.some.inj hf
    have hk : 0 = res := hk
    subst hk
    exact Fx.zret (by decide +kernel) rfl (Or.inl rfl)
  · replace hf := ifp b1 hf
    refine Fx.run [(.iconst 1, 1, 0, 0, .int 1)] 10 (by decide +kernel) ?_
    show Fx q_Mo_has 1 sh 10 [some (.int v0), some (.int v1)] [.int 1] hp (some (.int res)) hp
    refine Fx.goto (4) 14 (by decide +kernel) ?_
    obtain rfl := Option.some.inj hf
    have hk : 1 = res := hk
    subst hk
    exact Fx.zret (by decide +kernel) rfl (Or.inr rfl)
set_option maxHeartbeats 4000000 in
set_option maxRecDepth 20000 in
theorem t_Mo_less (sh : Shp) (hp : HP) (v0 : Int32) (v1 : Int32) (res : Int32) (hf : f_Mo_less v0 v1 = some res) : Ex 1 q_Mo_less sh [.int v0, .int v1] hp (some (.int res)) hp := by
  refine Ex.of [some (.int v0), some (.int v1)] rfl (Nat.le_of_ble_eq_true rfl) (by decide +kernel) rfl ?_
  obtain ⟨t, hk⟩ : ∃ t, t = res := ⟨res, rfl⟩
  rw [← hk] at hf
  unfold f_Mo_less at hf
  refine Fx.run [(.iload_n 0, 1, 0, 0, .null), (.iload_n 1, 1, 1, 0, .null)] 2 (by decide +kernel) ?_
  show Fx q_Mo_less 1 sh 2 [some (.int v0), some (.int v1)] [.int v1, .int v0] hp (some (.int res)) hp
  refine Fx.icmp_ge (7) 9 5 (by decide +kernel) (fun b1 => ?_) (fun b1 => ?_)
  · replace hf := ifp b1 hf
    refine Fx.run [(.iload_n 1, 1, 1, 0, .null)] 10 (by decide +kernel) ?_
    show Fx q_Mo_less 1 sh 10 [some (.int v0), some (.int v1)] [.int v1] hp (some (.int res)) hp
    obtain rfl := Option.some.inj hf
    have hk : v1 = res := hk
    subst hk
    exact Fx.iret (by decide +kernel) rfl
  · replace hf := ifn b1 hf
    refine Fx.run [(.iload_n 0, 1, 0, 0, .null)] 6 (by decide +kernel) ?_
    show Fx q_Mo_less 1 sh 6 [some (.int v0), some (.int v1)] [.int v0] hp (some (.int res)) hp
    refine Fx.goto (4) 10 (by decide +kernel) ?_
    obtain rfl := Option.some.inj hf
    have hk : v0 = res := hk
    subst hk
    exact Fx.iret (by decide +kernel) rfl
set_option maxHeartbeats 4000000 in
set_option maxRecDepth 20000 in
theorem t_Mo_more (sh : Shp) (hp : HP) (v0 : Int32) (v1 : Int32) (res : Int32) (hf : f_Mo_more v0 v1 = some res) : Ex 1 q_Mo_more sh [.int v0, .int v1] hp (some (.int res)) hp := by
  refine Ex.of [some (.int v0), some (.int v1)] rfl (Nat.le_of_ble_eq_true rfl) (by decide +kernel) rfl ?_
  obtain ⟨t, hk⟩ : ∃ t, t = res := ⟨res, rfl⟩
  rw [← hk] at hf
  unfold f_Mo_more at hf
  refine Fx.run [(.iload_n 0, 1, 0, 0, .null), (.iload_n 1, 1, 1, 0, .null)] 2 (by decide +kernel) ?_
  show Fx q_Mo_more 1 sh 2 [some (.int v0), some (.int v1)] [.int v1, .int v0] hp (some (.int res)) hp
  refine Fx.icmp_le (7) 9 5 (by decide +kernel) (fun b1 => ?_) (fun b1 => ?_)
  · replace hf := ifp b1 hf
    refine Fx.run [(.iload_n 1, 1, 1, 0, .null)] 10 (by decide +kernel) ?_
    show Fx q_Mo_more 1 sh 10 [some (.int v0), some (.int v1)] [.int v1] hp (some (.int res)) hp
    obtain rfl := Option.some.inj hf
    have hk : v1 = res := hk
    subst hk
    exact Fx.iret (by decide +kernel) rfl
  · replace hf := ifn b1 hf
    refine Fx.run [(.iload_n 0, 1, 0, 0, .null)] 6 (by decide +kernel) ?_
    show Fx q_Mo_more 1 sh 6 [some (.int v0), some (.int v1)] [.int v0] hp (some (.int res)) hp
    refine Fx.goto (4) 10 (by decide +kernel) ?_
    obtain rfl := Option.some.inj hf
    have hk : v0 = res := hk
    subst hk
    exact Fx.iret (by decide +kernel) rfl
set_option maxHeartbeats 4000000 in
set_option maxRecDepth 20000 in
theorem t_Mo_at (sh : Shp) (c : Nat) (hS : S_Mo sh c) (hp : HP) (v1 : Int32) (v2 : Int32) (res : Int32) (hf : f_Mo_at c hp v1 v2 = some res) : Ex 1 q_Mo_at sh [.ref c, .int v1, .int v2] hp (some (.int res)) hp := by
  refine Ex.of [some (.ref c), some (.int v1), some (.int v2)] rfl (Nat.le_of_ble_eq_true rfl) (by decide +kernel) rfl ?_
  obtain ⟨t, hk⟩ : ∃ t, t = res := ⟨res, rfl⟩
  rw [← hk] at hf
  unfold f_Mo_at at hf
  refine Fx.run [(.iconst 4, 1, 0, 0, .int 4), (.iconst 5, 1, 0, 0, .int 5), (.bipush 40, 2, 0, 0, .int 40), (.iload_n 1, 1, 1, 0, .null), (.imul, 1, 0, 0, .null), (.iload_n 2, 1, 2, 0, .null), (.iadd, 1, 0, 0, .null), (.imul, 1, 0, 0, .null), (.iadd, 1, 0, 0, .null)] 10 (by decide +kernel) ?_
  show Fx q_Mo_at 1 sh 10 [some (.ref c), some (.int v1), some (.int v2)] [.int (4 + (5 * ((40 * v1) + v2)))] hp (some (.int res)) hp
  obtain rfl := Option.some.inj hf
  have hk : (4 + (5 * ((40 * v1) + v2))) = res := hk
  subst hk
  exact Fx.iret (by decide +kernel) rfl
set_option maxHeartbeats 4000000 in
set_option maxRecDepth 20000 in
theorem t_Mo_of (sh : Shp) (c : Nat) (hS : S_Mo sh c) (hp : HP) (v1 : Int32) (v2 : Int32) (v3 : Int32) (res : Int32) (hf : f_Mo_of c hp v1 v2 v3 = some res) : Ex 2 q_Mo_of sh [.ref c, .int v1, .int v2, .int v3] hp (some (.int res)) hp := by
  refine Ex.of [some (.ref c), some (.int v1), some (.int v2), some (.int v3)] rfl (Nat.le_of_ble_eq_true rfl) (by decide +kernel) rfl ?_
  obtain ⟨t, hk⟩ : ∃ t, t = res := ⟨res, rfl⟩
  rw [← hk] at hf
  unfold f_Mo_of at hf
  refine Fx.run [(.aload_n 0, 1, 0, 0, .null), (.getfield 9, 3, 9, 0, .ref 1), (.aload_n 0, 1, 0, 0, .null), (.iload_n 1, 1, 1, 0, .null), (.iload_n 2, 1, 2, 0, .null)] 7 (by decide +kernel) ?_
  show isK sh c 9 ∧ Fx q_Mo_of 2 sh 7 [some (.ref c), some (.int v1), some (.int v2), some (.int v3)] [.int v2, .int v1, .ref c, .ref (c + 1)] hp (some (.int res)) hp
  refine ⟨hS.1, ?_⟩
  replace hf := bnd hf
  obtain ⟨r1, hr1, hf⟩ := hf
  refine Fx.callV (rr := (some (.int r1))) (hp1 := hp) [.int v1, .int v2] [.ref (c + 1)] lk_9_40 (by decide +kernel) (t_Mo_at sh c (hS) hp v1 v2 r1 hr1) ⟨Nat.le_of_ble_eq_true rfl, Nat.le_of_ble_eq_true rfl⟩ (hS).1 (by decide) rfl (Nat.le_of_ble_eq_true rfl) ?_
  show Fx q_Mo_of 2 sh 10 [some (.ref c), some (.int v1), some (.int v2), some (.int v3)] [.int r1, .ref (c + 1)] hp (some (.int res)) hp
  replace hf := gd hf
  obtain ⟨g2, hf⟩ := hf
  refine Fx.run [(.iload_n 3, 1, 3, 0, .null), (.iadd, 1, 0, 0, .null), (.iaload, 1, 4100, 0, .null)] 13 (by decide +kernel) ?_
  show (isA sh (c + 1) 10 4100 ∧ inb (r1 + v3) 4100) ∧ Fx q_Mo_of 2 sh 13 [some (.ref c), some (.int v1), some (.int v2), some (.int v3)] [.int (hp.1 (c + 1) (ix (r1 + v3)))] hp (some (.int res)) hp
  refine ⟨⟨hS.2.1, g2⟩, ?_⟩
  obtain rfl := Option.some.inj hf
  have hk : (hp.1 (c + 1) (ix (r1 + v3))) = res := hk
  subst hk
  exact Fx.iret (by decide +kernel) rfl
set_option maxHeartbeats 4000000 in
set_option maxRecDepth 20000 in
theorem t_Mo_startOf (sh : Shp) (c : Nat) (hS : S_Mo sh c) (hp : HP) (v1 : Int32) (v2 : Int32) (res : Int32) (hf : f_Mo_startOf c hp v1 v2 = some res) : Ex 3 q_Mo_startOf sh [.ref c, .int v1, .int v2] hp (some (.int res)) hp := by
  refine Ex.of [some (.ref c), some (.int v1), some (.int v2)] rfl (Nat.le_of_ble_eq_true rfl) (by decide +kernel) rfl ?_
  obtain ⟨t, hk⟩ : ∃ t, t = res := ⟨res, rfl⟩
  rw [← hk] at hf
  unfold f_Mo_startOf at hf
  refine Fx.run [(.iconst 2, 1, 0, 0, .int 2), (.aload_n 0, 1, 0, 0, .null), (.iload_n 1, 1, 1, 0, .null), (.iload_n 2, 1, 2, 0, .null), (.iconst 2, 1, 0, 0, .int 2)] 5 (by decide +kernel) ?_
  show Fx q_Mo_startOf 3 sh 5 [some (.ref c), some (.int v1), some (.int v2)] [.int 2, .int v2, .int v1, .ref c, .int 2] hp (some (.int res)) hp
  replace hf := bnd hf
  obtain ⟨r1, hr1, hf⟩ := hf
  refine Fx.callV (rr := (some (.int r1))) (hp1 := hp) [.int v1, .int v2, .int 2] [.int 2] lk_9_44 (by decide +kernel) (t_Mo_of sh c (hS) hp v1 v2 2 r1 hr1) ⟨Nat.le_of_ble_eq_true rfl, Nat.le_of_ble_eq_true rfl⟩ (hS).1 (by decide) rfl (Nat.le_of_ble_eq_true rfl) ?_
  show Fx q_Mo_startOf 3 sh 8 [some (.ref c), some (.int v1), some (.int v2)] [.int r1, .int 2] hp (some (.int res)) hp
  refine Fx.run [(.imul, 1, 0, 0, .null)] 9 (by decide +kernel) ?_
  show Fx q_Mo_startOf 3 sh 9 [some (.ref c), some (.int v1), some (.int v2)] [.int (2 * r1)] hp (some (.int res)) hp
  obtain rfl := Option.some.inj hf
  have hk : (2 * r1) = res := hk
  subst hk
  exact Fx.iret (by decide +kernel) rfl
set_option maxHeartbeats 4000000 in
set_option maxRecDepth 20000 in
theorem t_Mo_endOf (sh : Shp) (c : Nat) (hS : S_Mo sh c) (hp : HP) (v1 : Int32) (v2 : Int32) (res : Int32) (hf : f_Mo_endOf c hp v1 v2 = some res) : Ex 3 q_Mo_endOf sh [.ref c, .int v1, .int v2] hp (some (.int res)) hp := by
  refine Ex.of [some (.ref c), some (.int v1), some (.int v2), none] rfl (Nat.le_of_ble_eq_true rfl) (by decide +kernel) rfl ?_
  obtain ⟨t, hk⟩ : ∃ t, t = res := ⟨res, rfl⟩
  rw [← hk] at hf
  unfold f_Mo_endOf at hf
  refine Fx.run [(.aload_n 0, 1, 0, 0, .null), (.iload_n 1, 1, 1, 0, .null), (.iload_n 2, 1, 2, 0, .null), (.iconst 3, 1, 0, 0, .int 3)] 4 (by decide +kernel) ?_
  show Fx q_Mo_endOf 3 sh 4 [some (.ref c), some (.int v1), some (.int v2), none] [.int 3, .int v2, .int v1, .ref c] hp (some (.int res)) hp
  replace hf := bnd hf
  obtain ⟨r1, hr1, hf⟩ := hf
  refine Fx.callV (rr := (some (.int r1))) (hp1 := hp) [.int v1, .int v2, .int 3] [] lk_9_44 (by decide +kernel) (t_Mo_of sh c (hS) hp v1 v2 3 r1 hr1) ⟨Nat.le_of_ble_eq_true rfl, Nat.le_of_ble_eq_true rfl⟩ (hS).1 (by decide) rfl (Nat.le_of_ble_eq_true rfl) ?_
  show Fx q_Mo_endOf 3 sh 7 [some (.ref c), some (.int v1), some (.int v2), none] [.int r1] hp (some (.int res)) hp
  refine Fx.run [(.istore_n 3, 1, 3, 0, .null), (.iconst 2, 1, 0, 0, .int 2), (.iload_n 3, 1, 3, 0, .null), (.imul, 1, 0, 0, .null), (.iload_n 3, 1, 3, 0, .null), (.aload_n 0, 1, 0, 0, .null), (.iload_n 1, 1, 1, 0, .null), (.iload_n 2, 1, 2, 0, .null), (.iconst 2, 1, 0, 0, .int 2)] 16 (by decide +kernel) ?_
  show Fx q_Mo_endOf 3 sh 16 [some (.ref c), some (.int v1), some (.int v2), some (.int r1)] [.int 2, .int v2, .int v1, .ref c, .int r1, .int (2 * r1)] hp (some (.int res)) hp
  replace hf := bnd hf
  obtain ⟨r2, hr2, hf⟩ := hf
  refine Fx.callV (rr := (some (.int r2))) (hp1 := hp) [.int v1, .int v2, .int 2] [.int r1, .int (2 * r1)] lk_9_44 (by decide +kernel) (t_Mo_of sh c (hS) hp v1 v2 2 r2 hr2) ⟨Nat.le_of_ble_eq_true rfl, Nat.le_of_ble_eq_true rfl⟩ (hS).1 (by decide) rfl (Nat.le_of_ble_eq_true rfl) ?_
  show Fx q_Mo_endOf 3 sh 19 [some (.ref c), some (.int v1), some (.int v2), some (.int r1)] [.int r2, .int r1, .int (2 * r1)] hp (some (.int res)) hp
  refine Fx.icmp_ne (7) 26 22 (by decide +kernel) (fun b3 => ?_) (fun b3 => ?_)
  · replace hf := ifn b3 hf
    refine Fx.run [(.iconst 0, 1, 0, 0, .int 0), (.iadd, 1, 0, 0, .null)] 28 (by decide +kernel) ?_
    show Fx q_Mo_endOf 3 sh 28 [some (.ref c), some (.int v1), some (.int v2), some (.int r1)] [.int ((2 * r1) + 0)] hp (some (.int res)) hp
    obtain rfl := Option.some.inj hf
    have hk : ((2 * r1) + 0) = res := hk
    subst hk
    exact Fx.iret (by decide +kernel) rfl
  · replace hf := ifp b3 hf
    refine Fx.run [(.iconst 1, 1, 0, 0, .int 1)] 23 (by decide +kernel) ?_
    show Fx q_Mo_endOf 3 sh 23 [some (.ref c), some (.int v1), some (.int v2), some (.int r1)] [.int 1, .int (2 * r1)] hp (some (.int res)) hp
    refine Fx.goto (4) 27 (by decide +kernel) ?_
    refine Fx.run [(.iadd, 1, 0, 0, .null)] 28 (by decide +kernel) ?_
    show Fx q_Mo_endOf 3 sh 28 [some (.ref c), some (.int v1), some (.int v2), some (.int r1)] [.int ((2 * r1) + 1)] hp (some (.int res)) hp
    obtain rfl := Option.some.inj hf
    have hk : ((2 * r1) + 1) = res := hk
    subst hk
    exact Fx.iret (by decide +kernel) rfl
set_option maxHeartbeats 4000000 in
set_option maxRecDepth 20000 in
theorem t_Mo_longOf (sh : Shp) (c : Nat) (hS : S_Mo sh c) (hp : HP) (v1 : Int32) (v2 : Int32) (res : Int32) (hf : f_Mo_longOf c hp v1 v2 = some res) : Ex 3 q_Mo_longOf sh [.ref c, .int v1, .int v2] hp (some (.int res)) hp := by
  refine Ex.of [some (.ref c), some (.int v1), some (.int v2)] rfl (Nat.le_of_ble_eq_true rfl) (by decide +kernel) rfl ?_
  obtain ⟨t, hk⟩ : ∃ t, t = res := ⟨res, rfl⟩
  rw [← hk] at hf
  unfold f_Mo_longOf at hf
  refine Fx.run [(.aload_n 0, 1, 0, 0, .null), (.iload_n 1, 1, 1, 0, .null), (.iload_n 2, 1, 2, 0, .null), (.iconst 3, 1, 0, 0, .int 3)] 4 (by decide +kernel) ?_
  show Fx q_Mo_longOf 3 sh 4 [some (.ref c), some (.int v1), some (.int v2)] [.int 3, .int v2, .int v1, .ref c] hp (some (.int res)) hp
  replace hf := bnd hf
  obtain ⟨r1, hr1, hf⟩ := hf
  refine Fx.callV (rr := (some (.int r1))) (hp1 := hp) [.int v1, .int v2, .int 3] [] lk_9_44 (by decide +kernel) (t_Mo_of sh c (hS) hp v1 v2 3 r1 hr1) ⟨Nat.le_of_ble_eq_true rfl, Nat.le_of_ble_eq_true rfl⟩ (hS).1 (by decide) rfl (Nat.le_of_ble_eq_true rfl) ?_
  show Fx q_Mo_longOf 3 sh 7 [some (.ref c), some (.int v1), some (.int v2)] [.int r1] hp (some (.int res)) hp
  refine Fx.run [(.aload_n 0, 1, 0, 0, .null), (.iload_n 1, 1, 1, 0, .null), (.iload_n 2, 1, 2, 0, .null), (.iconst 2, 1, 0, 0, .int 2)] 11 (by decide +kernel) ?_
  show Fx q_Mo_longOf 3 sh 11 [some (.ref c), some (.int v1), some (.int v2)] [.int 2, .int v2, .int v1, .ref c, .int r1] hp (some (.int res)) hp
  replace hf := bnd hf
  obtain ⟨r2, hr2, hf⟩ := hf
  refine Fx.callV (rr := (some (.int r2))) (hp1 := hp) [.int v1, .int v2, .int 2] [.int r1] lk_9_44 (by decide +kernel) (t_Mo_of sh c (hS) hp v1 v2 2 r2 hr2) ⟨Nat.le_of_ble_eq_true rfl, Nat.le_of_ble_eq_true rfl⟩ (hS).1 (by decide) rfl (Nat.le_of_ble_eq_true rfl) ?_
  show Fx q_Mo_longOf 3 sh 14 [some (.ref c), some (.int v1), some (.int v2)] [.int r2, .int r1] hp (some (.int res)) hp
  refine Fx.run [(.isub, 1, 0, 0, .null)] 15 (by decide +kernel) ?_
  show Fx q_Mo_longOf 3 sh 15 [some (.ref c), some (.int v1), some (.int v2)] [.int (r1 - r2)] hp (some (.int res)) hp
  obtain rfl := Option.some.inj hf
  have hk : (r1 - r2) = res := hk
  subst hk
  exact Fx.iret (by decide +kernel) rfl
set_option maxHeartbeats 4000000 in
set_option maxRecDepth 20000 in
theorem t_Mo_time (sh : Shp) (hp : HP) (v0 : Int32) (res : Int32) (hf : f_Mo_time v0 = some res) : Ex 1 q_Mo_time sh [.int v0] hp (some (.int res)) hp := by
  refine Ex.of [some (.int v0)] rfl (Nat.le_of_ble_eq_true rfl) (by decide +kernel) rfl ?_
  obtain ⟨t, hk⟩ : ∃ t, t = res := ⟨res, rfl⟩
  rw [← hk] at hf
  unfold f_Mo_time at hf
  refine Fx.run [(.iload_n 0, 1, 0, 0, .null), (.iconst 1, 1, 0, 0, .int 1), (.ishr, 1, 0, 0, .null)] 3 (by decide +kernel) ?_
  show Fx q_Mo_time 1 sh 3 [some (.int v0)] [.int (v0 >>> (1 &&& 31))] hp (some (.int res)) hp
  obtain rfl := Option.some.inj hf
  have hk : (v0 >>> (1 &&& 31)) = res := hk
  subst hk
  exact Fx.iret (by decide +kernel) rfl
set_option maxHeartbeats 4000000 in
set_option maxRecDepth 20000 in
theorem t_Mo_isSide (sh : Shp) (hp : HP) (v0 : Int32) (res : Int32) (hf : f_Mo_isSide v0 = some res) : Ex 2 q_Mo_isSide sh [.int v0] hp (some (.int res)) hp := by
  refine Ex.of [some (.int v0)] rfl (Nat.le_of_ble_eq_true rfl) (by decide +kernel) rfl ?_
  obtain ⟨t, hk⟩ : ∃ t, t = res := ⟨res, rfl⟩
  rw [← hk] at hf
  unfold f_Mo_isSide at hf
  refine Fx.run [(.iload_n 0, 1, 0, 0, .null), (.iconst 0, 1, 0, 0, .int 0), (.iconst 1, 1, 0, 0, .int 1)] 3 (by decide +kernel) ?_
  show Fx q_Mo_isSide 2 sh 3 [some (.int v0)] [.int 1, .int 0, .int v0] hp (some (.int res)) hp
  replace hf := bnd hf
  obtain ⟨r1, hr1, hf⟩ := hf
  refine Fx.callS (rr := (some (.int r1))) (hp1 := hp) [.int v0, .int 0, .int 1] [] lk_9_48 (by decide +kernel) (t_Mo_isIn sh hp v0 0 1 r1 hr1) ⟨Nat.le_of_ble_eq_true rfl, Nat.le_of_ble_eq_true rfl⟩ rfl (Nat.le_of_ble_eq_true rfl) ?_
  show Fx q_Mo_isSide 2 sh 6 [some (.int v0)] [.int r1] hp (some (.int res)) hp
  replace hf := gd hf
  obtain ⟨g2, hf⟩ := hf
  obtain rfl := Option.some.inj hf
  have hk : r1 = res := hk
  subst hk
  exact Fx.zret (by decide +kernel) rfl g2
set_option maxHeartbeats 4000000 in
set_option maxRecDepth 20000 in
theorem t_Mo_isRow (sh : Shp) (c : Nat) (hS : S_Mo sh c) (hp : HP) (v1 : Int32) (v2 : Int32) (res : Int32) (hf : f_Mo_isRow c hp v1 v2 = some res) : Ex 3 q_Mo_isRow sh [.ref c, .int v1, .int v2] hp (some (.int res)) hp := by
  refine Ex.of [some (.ref c), some (.int v1), some (.int v2)] rfl (Nat.le_of_ble_eq_true rfl) (by decide +kernel) rfl ?_
  obtain ⟨t, hk⟩ : ∃ t, t = res := ⟨res, rfl⟩
  rw [← hk] at hf
  unfold f_Mo_isRow at hf
  refine Fx.run [(.iload_n 1, 1, 1, 0, .null)] 1 (by decide +kernel) ?_
  show Fx q_Mo_isRow 3 sh 1 [some (.ref c), some (.int v1), some (.int v2)] [.int v1] hp (some (.int res)) hp
  replace hf := bnd hf
  obtain ⟨r1, hr1, hf⟩ := hf
  refine Fx.callS (rr := (some (.int r1))) (hp1 := hp) [.int v1] [] lk_9_52 (by decide +kernel) (t_Mo_isSide sh hp v1 r1 hr1) ⟨Nat.le_of_ble_eq_true rfl, Nat.le_of_ble_eq_true rfl⟩ rfl (Nat.le_of_ble_eq_true rfl) ?_
  show Fx q_Mo_isRow 3 sh 4 [some (.ref c), some (.int v1), some (.int v2)] [.int r1] hp (some (.int res)) hp
  refine Fx.if_eq (25) 29 7 (by decide +kernel) (fun b2 => ?_) (fun b2 => ?_)
  · replace hf := ifp b2 hf
    refine Fx.run [(.iconst 0, 1, 0, 0, .int 0)] 30 (by decide +kernel) ?_
    show Fx q_Mo_isRow 3 sh 30 [some (.ref c), some (.int v1), some (.int v2)] [.int 0] hp (some (.int res)) hp
    obtain rfl := Option.some.inj hf
    have hk : 0 = res := hk
    subst hk
    exact Fx.zret (by decide +kernel) rfl (Or.inl rfl)
  · replace hf := ifn b2 hf
    replace hf := gd hf
    obtain ⟨g3, hf⟩ := hf
    refine Fx.run [(.iload_n 2, 1, 2, 0, .null), (.iconst 0, 1, 0, 0, .int 0), (.aload_n 0, 1, 0, 0, .null), (.getfield 9, 3, 9, 0, .ref 1), (.iconst 2, 1, 0, 0, .int 2), (.iload_n 1, 1, 1, 0, .null), (.iadd, 1, 0, 0, .null), (.iaload, 1, 4100, 0, .null), (.iconst 1, 1, 0, 0, .int 1), (.isub, 1, 0, 0, .null)] 19 (by decide +kernel) ?_
    show isK sh c 9 ∧ (isA sh (c + 1) 10 4100 ∧ inb (2 + v1) 4100) ∧ Fx q_Mo_isRow 3 sh 19 [some (.ref c), some (.int v1), some (.int v2)] [.int ((hp.1 (c + 1) (ix (2 + v1))) - 1), .int 0, .int v2] hp (some (.int res)) hp
    refine ⟨hS.1, ⟨hS.2.1, g3⟩, ?_⟩
    replace hf := bnd hf
    obtain ⟨r4, hr4, hf⟩ := hf
    refine Fx.callS (rr := (some (.int r4))) (hp1 := hp) [.int v2, .int 0, .int ((hp.1 (c + 1) (ix (2 + v1))) - 1)] [] lk_9_48 (by decide +kernel) (t_Mo_isIn sh hp v2 0 ((hp.1 (c + 1) (ix (2 + v1))) - 1) r4 hr4) ⟨Nat.le_of_ble_eq_true rfl, Nat.le_of_ble_eq_true rfl⟩ rfl (Nat.le_of_ble_eq_true rfl) ?_
    show Fx q_Mo_isRow 3 sh 22 [some (.ref c), some (.int v1), some (.int v2)] [.int r4] hp (some (.int res)) hp
    refine Fx.if_eq (7) 29 25 (by decide +kernel) (fun b5 => ?_) (fun b5 => ?_)
    · replace hf := ifp b5 hf
      refine Fx.run [(.iconst 0, 1, 0, 0, .int 0)] 30 (by decide +kernel) ?_
      show Fx q_Mo_isRow 3 sh 30 [some (.ref c), some (.int v1), some (.int v2)] [.int 0] hp (some (.int res)) hp
      obtain rfl := Option.some.inj hf
      have hk : 0 = res := hk
      subst hk
      exact Fx.zret (by decide +kernel) rfl (Or.inl rfl)
    · replace hf := ifn b5 hf
      refine Fx.run [(.iconst 1, 1, 0, 0, .int 1)] 26 (by decide +kernel) ?_
      show Fx q_Mo_isRow 3 sh 26 [some (.ref c), some (.int v1), some (.int v2)] [.int 1] hp (some (.int res)) hp
      refine Fx.goto (4) 30 (by decide +kernel) ?_
      obtain rfl := Option.some.inj hf
      have hk : 1 = res := hk
      subst hk
      exact Fx.zret (by decide +kernel) rfl (Or.inr rfl)
set_option maxHeartbeats 4000000 in
set_option maxRecDepth 20000 in
theorem t_Mo_isKey (sh : Shp) (hp : HP) (v0 : Int32) (res : Int32) (hf : f_Mo_isKey v0 = some res) : Ex 2 q_Mo_isKey sh [.int v0] hp (some (.int res)) hp := by
  refine Ex.of [some (.int v0)] rfl (Nat.le_of_ble_eq_true rfl) (by decide +kernel) rfl ?_
  obtain ⟨t, hk⟩ : ∃ t, t = res := ⟨res, rfl⟩
  rw [← hk] at hf
  unfold f_Mo_isKey at hf
  refine Fx.run [(.iload_n 0, 1, 0, 0, .null), (.iconst 0, 1, 0, 0, .int 0), (.bipush 9, 2, 0, 0, .int 9)] 4 (by decide +kernel) ?_
  show Fx q_Mo_isKey 2 sh 4 [some (.int v0)] [.int 9, .int 0, .int v0] hp (some (.int res)) hp
  replace hf := bnd hf
  obtain ⟨r1, hr1, hf⟩ := hf
  refine Fx.callS (rr := (some (.int r1))) (hp1 := hp) [.int v0, .int 0, .int 9] [] lk_9_48 (by decide +kernel) (t_Mo_isIn sh hp v0 0 9 r1 hr1) ⟨Nat.le_of_ble_eq_true rfl, Nat.le_of_ble_eq_true rfl⟩ rfl (Nat.le_of_ble_eq_true rfl) ?_
  show Fx q_Mo_isKey 2 sh 7 [some (.int v0)] [.int r1] hp (some (.int res)) hp
  replace hf := gd hf
  obtain ⟨g2, hf⟩ := hf
  obtain rfl := Option.some.inj hf
  have hk : r1 = res := hk
  subst hk
  exact Fx.zret (by decide +kernel) rfl g2
set_option maxHeartbeats 4000000 in
set_option maxRecDepth 20000 in
theorem t_Mo_kindOf (sh : Shp) (hp : HP) (v0 : Int32) (v1 : Int32) (v2 : Int32) (v3 : Int32) (res : Int32) (hf : f_Mo_kindOf v0 v1 v2 v3 = some res) : Ex 1 q_Mo_kindOf sh [.int v0, .int v1, .int v2, .int v3] hp (some (.int res)) hp := by
  refine Ex.of [some (.int v0), some (.int v1), some (.int v2), some (.int v3)] rfl (Nat.le_of_ble_eq_true rfl) (by decide +kernel) rfl ?_
  obtain ⟨t, hk⟩ : ∃ t, t = res := ⟨res, rfl⟩
  rw [← hk] at hf
  unfold f_Mo_kindOf at hf
  refine Fx.run [(.iload_n 1, 1, 1, 0, .null), (.iload_n 2, 1, 2, 0, .null)] 2 (by decide +kernel) ?_
  show Fx q_Mo_kindOf 1 sh 2 [some (.int v0), some (.int v1), some (.int v2), some (.int v3)] [.int v2, .int v1] hp (some (.int res)) hp
  refine Fx.icmp_ge (5) 7 5 (by decide +kernel) (fun b1 => ?_) (fun b1 => ?_)
  · replace hf := ifp b1 hf
    refine Fx.run [(.iload_n 1, 1, 1, 0, .null), (.iload_n 2, 1, 2, 0, .null)] 9 (by decide +kernel) ?_
    show Fx q_Mo_kindOf 1 sh 9 [some (.int v0), some (.int v1), some (.int v2), some (.int v3)] [.int v2, .int v1] hp (some (.int res)) hp
    refine Fx.icmp_ne (5) 14 12 (by decide +kernel) (fun b2 => ?_) (fun b2 => ?_)
    · replace hf := ifn b2 hf
      refine Fx.run [(.iload_n 3, 1, 3, 0, .null), (.iload_n 0, 1, 0, 0, .null)] 16 (by decide +kernel) ?_
      show Fx q_Mo_kindOf 1 sh 16 [some (.int v0), some (.int v1), some (.int v2), some (.int v3)] [.int v0, .int v3] hp (some (.int res)) hp
      refine Fx.icmp_ge (6) 22 19 (by decide +kernel) (fun b3 => ?_) (fun b3 => ?_)
      · replace hf := ifp b3 hf
        refine Fx.run [(.iload_n 3, 1, 3, 0, .null), (.iload_n 0, 1, 0, 0, .null)] 24 (by decide +kernel) ?_
        show Fx q_Mo_kindOf 1 sh 24 [some (.int v0), some (.int v1), some (.int v2), some (.int v3)] [.int v0, .int v3] hp (some (.int res)) hp
        refine Fx.icmp_ne (6) 30 27 (by decide +kernel) (fun b4 => ?_) (fun b4 => ?_)
        · replace hf := ifn b4 hf
          refine Fx.run [(.iload_n 0, 1, 0, 0, .null), (.iload_n 2, 1, 2, 0, .null)] 32 (by decide +kernel) ?_
          show Fx q_Mo_kindOf 1 sh 32 [some (.int v0), some (.int v1), some (.int v2), some (.int v3)] [.int v2, .int v0] hp (some (.int res)) hp
          refine Fx.icmp_ne (25) 57 35 (by decide +kernel) (fun b5 => ?_) (fun b5 => ?_)
          · replace hf := ifn b5 hf
            refine Fx.run [(.iload_n 1, 1, 1, 0, .null), (.iload_n 3, 1, 3, 0, .null)] 59 (by decide +kernel) ?_
            show Fx q_Mo_kindOf 1 sh 59 [some (.int v0), some (.int v1), some (.int v2), some (.int v3)] [.int v3, .int v1] hp (some (.int res)) hp
            refine Fx.icmp_ne (15) 74 62 (by decide +kernel) (fun b6 => ?_) (fun b6 => ?_)
            · replace hf := ifn b6 hf
              refine Fx.run [(.iload_n 0, 1, 0, 0, .null), (.iload_n 2, 1, 2, 0, .null)] 76 (by decide +kernel) ?_
              show Fx q_Mo_kindOf 1 sh 76 [some (.int v0), some (.int v1), some (.int v2), some (.int v3)] [.int v2, .int v0] hp (some (.int res)) hp
              refine Fx.icmp_ge (15) 91 79 (by decide +kernel) (fun b7 => ?_) (fun b7 => ?_)
              · replace hf := ifp b7 hf
                refine Fx.run [(.iload_n 1, 1, 1, 0, .null), (.iload_n 3, 1, 3, 0, .null)] 93 (by decide +kernel) ?_
                show Fx q_Mo_kindOf 1 sh 93 [some (.int v0), some (.int v1), some (.int v2), some (.int v3)] [.int v3, .int v1] hp (some (.int res)) hp
                refine Fx.icmp_ge (7) 100 96 (by decide +kernel) (fun b8 => ?_) (fun b8 => ?_)
                · replace hf := ifp b8 hf
                  refine Fx.run [(.bipush 10, 2, 0, 0, .int 10)] 102 (by decide +kernel) ?_
                  show Fx q_Mo_kindOf 1 sh 102 [some (.int v0), some (.int v1), some (.int v2), some (.int v3)] [.int 10] hp (some (.int res)) hp
                  obtain rfl := Option.some.inj hf
                  have hk : 10 = res := hk
                  subst hk
                  exact Fx.iret (by decide +kernel) rfl
                · replace hf := ifn b8 hf
                  refine Fx.run [(.iconst 4, 1, 0, 0, .int 4)] 97 (by decide +kernel) ?_
                  show Fx q_Mo_kindOf 1 sh 97 [some (.int v0), some (.int v1), some (.int v2), some (.int v3)] [.int 4] hp (some (.int res)) hp
                  refine Fx.goto (5) 102 (by decide +kernel) ?_
                  obtain rfl := Option.some.inj hf
                  have hk : 4 = res := hk
                  subst hk
                  exact Fx.iret (by decide +kernel) rfl
              · replace hf := ifn b7 hf
                refine Fx.run [(.iload_n 1, 1, 1, 0, .null), (.iload_n 3, 1, 3, 0, .null)] 81 (by decide +kernel) ?_
                show Fx q_Mo_kindOf 1 sh 81 [some (.int v0), some (.int v1), some (.int v2), some (.int v3)] [.int v3, .int v1] hp (some (.int res)) hp
                refine Fx.icmp_ge (7) 88 84 (by decide +kernel) (fun b9 => ?_) (fun b9 => ?_)
                · replace hf := ifp b9 hf
                  refine Fx.run [(.bipush 8, 2, 0, 0, .int 8)] 90 (by decide +kernel) ?_
                  show Fx q_Mo_kindOf 1 sh 90 [some (.int v0), some (.int v1), some (.int v2), some (.int v3)] [.int 8] hp (some (.int res)) hp
                  obtain rfl := Option.some.inj hf
                  have hk : 8 = res := hk
                  subst hk
                  exact Fx.iret (by decide +kernel) rfl
                · replace hf := ifn b9 hf
                  refine Fx.run [(.iconst 2, 1, 0, 0, .int 2)] 85 (by decide +kernel) ?_
                  show Fx q_Mo_kindOf 1 sh 85 [some (.int v0), some (.int v1), some (.int v2), some (.int v3)] [.int 2] hp (some (.int res)) hp
                  refine Fx.goto (5) 90 (by decide +kernel) ?_
                  obtain rfl := Option.some.inj hf
                  have hk : 2 = res := hk
                  subst hk
                  exact Fx.iret (by decide +kernel) rfl
            · replace hf := ifp b6 hf
              refine Fx.run [(.iload_n 0, 1, 0, 0, .null), (.iload_n 2, 1, 2, 0, .null)] 64 (by decide +kernel) ?_
              show Fx q_Mo_kindOf 1 sh 64 [some (.int v0), some (.int v1), some (.int v2), some (.int v3)] [.int v2, .int v0] hp (some (.int res)) hp
              refine Fx.icmp_ge (8) 72 67 (by decide +kernel) (fun b10 => ?_) (fun b10 => ?_)
              · replace hf := ifp b10 hf
                refine Fx.run [(.iconst 5, 1, 0, 0, .int 5)] 73 (by decide +kernel) ?_
                show Fx q_Mo_kindOf 1 sh 73 [some (.int v0), some (.int v1), some (.int v2), some (.int v3)] [.int 5] hp (some (.int res)) hp
                obtain rfl := Option.some.inj hf
                have hk : 5 = res := hk
                subst hk
                exact Fx.iret (by decide +kernel) rfl
              · replace hf := ifn b10 hf
                refine Fx.run [(.bipush 7, 2, 0, 0, .int 7)] 69 (by decide +kernel) ?_
                show Fx q_Mo_kindOf 1 sh 69 [some (.int v0), some (.int v1), some (.int v2), some (.int v3)] [.int 7] hp (some (.int res)) hp
                refine Fx.goto (4) 73 (by decide +kernel) ?_
                obtain rfl := Option.some.inj hf
                have hk : 7 = res := hk
                subst hk
                exact Fx.iret (by decide +kernel) rfl
          · replace hf := ifp b5 hf
            refine Fx.run [(.iload_n 1, 1, 1, 0, .null), (.iload_n 3, 1, 3, 0, .null)] 37 (by decide +kernel) ?_
            show Fx q_Mo_kindOf 1 sh 37 [some (.int v0), some (.int v1), some (.int v2), some (.int v3)] [.int v3, .int v1] hp (some (.int res)) hp
            refine Fx.icmp_ge (7) 44 40 (by decide +kernel) (fun b11 => ?_) (fun b11 => ?_)
            · replace hf := ifp b11 hf
              refine Fx.run [(.iload_n 1, 1, 1, 0, .null), (.iload_n 3, 1, 3, 0, .null)] 46 (by decide +kernel) ?_
              show Fx q_Mo_kindOf 1 sh 46 [some (.int v0), some (.int v1), some (.int v2), some (.int v3)] [.int v3, .int v1] hp (some (.int res)) hp
              refine Fx.icmp_ne (8) 54 49 (by decide +kernel) (fun b12 => ?_) (fun b12 => ?_)
              · replace hf := ifn b12 hf
                refine Fx.run [(.bipush 9, 2, 0, 0, .int 9)] 56 (by decide +kernel) ?_
                show Fx q_Mo_kindOf 1 sh 56 [some (.int v0), some (.int v1), some (.int v2), some (.int v3)] [.int 9] hp (some (.int res)) hp
                obtain rfl := Option.some.inj hf
                have hk : 9 = res := hk
                subst hk
                exact Fx.iret (by decide +kernel) rfl
              · replace hf := ifp b12 hf
                refine Fx.run [(.bipush 6, 2, 0, 0, .int 6)] 51 (by decide +kernel) ?_
                show Fx q_Mo_kindOf 1 sh 51 [some (.int v0), some (.int v1), some (.int v2), some (.int v3)] [.int 6] hp (some (.int res)) hp
                refine Fx.goto (5) 56 (by decide +kernel) ?_
                obtain rfl := Option.some.inj hf
                have hk : 6 = res := hk
                subst hk
                exact Fx.iret (by decide +kernel) rfl
            · replace hf := ifn b11 hf
              refine Fx.run [(.iconst 3, 1, 0, 0, .int 3)] 41 (by decide +kernel) ?_
              show Fx q_Mo_kindOf 1 sh 41 [some (.int v0), some (.int v1), some (.int v2), some (.int v3)] [.int 3] hp (some (.int res)) hp
              refine Fx.goto (15) 56 (by decide +kernel) ?_
              obtain rfl := Option.some.inj hf
              have hk : 3 = res := hk
              subst hk
              exact Fx.iret (by decide +kernel) rfl
        · replace hf := ifp b4 hf
          refine Fx.run [(.bipush 11, 2, 0, 0, .int 11)] 29 (by decide +kernel) ?_
          show Fx q_Mo_kindOf 1 sh 29 [some (.int v0), some (.int v1), some (.int v2), some (.int v3)] [.int 11] hp (some (.int res)) hp
          obtain rfl := Option.some.inj hf
          have hk : 11 = res := hk
          subst hk
          exact Fx.iret (by decide +kernel) rfl
      · replace hf := ifn b3 hf
        refine Fx.run [(.bipush 12, 2, 0, 0, .int 12)] 21 (by decide +kernel) ?_
        show Fx q_Mo_kindOf 1 sh 21 [some (.int v0), some (.int v1), some (.int v2), some (.int v3)] [.int 12] hp (some (.int res)) hp
        obtain rfl := Option.some.inj hf
        have hk : 12 = res := hk
        subst hk
        exact Fx.iret (by decide +kernel) rfl
    · replace hf := ifp b2 hf
      refine Fx.run [(.iconst 1, 1, 0, 0, .int 1)] 13 (by decide +kernel) ?_
      show Fx q_Mo_kindOf 1 sh 13 [some (.int v0), some (.int v1), some (.int v2), some (.int v3)] [.int 1] hp (some (.int res)) hp
      obtain rfl := Option.some.inj hf
      have hk : 1 = res := hk
      subst hk
      exact Fx.iret (by decide +kernel) rfl
  · replace hf := ifn b1 hf
    refine Fx.run [(.iconst 0, 1, 0, 0, .int 0)] 6 (by decide +kernel) ?_
    show Fx q_Mo_kindOf 1 sh 6 [some (.int v0), some (.int v1), some (.int v2), some (.int v3)] [.int 0] hp (some (.int res)) hp
    obtain rfl := Option.some.inj hf
    have hk : 0 = res := hk
    subst hk
    exact Fx.iret (by decide +kernel) rfl
set_option maxHeartbeats 4000000 in
set_option maxRecDepth 20000 in
theorem t_Mo_kindBetween (sh : Shp) (c : Nat) (hS : S_Mo sh c) (hp : HP) (v1 : Int32) (v2 : Int32) (v3 : Int32) (v4 : Int32) (res : Int32) (hf : f_Mo_kindBetween c hp v1 v2 v3 v4 = some res) : Ex 4 q_Mo_kindBetween sh [.ref c, .int v1, .int v2, .int v3, .int v4] hp (some (.int res)) hp := by
  refine Ex.of [some (.ref c), some (.int v1), some (.int v2), some (.int v3), some (.int v4)] rfl (Nat.le_of_ble_eq_true rfl) (by decide +kernel) rfl ?_
  obtain ⟨t, hk⟩ : ∃ t, t = res := ⟨res, rfl⟩
  rw [← hk] at hf
  unfold f_Mo_kindBetween at hf
  refine Fx.run [(.aload_n 0, 1, 0, 0, .null), (.iload_n 1, 1, 1, 0, .null), (.iload_n 2, 1, 2, 0, .null)] 3 (by decide +kernel) ?_
  show Fx q_Mo_kindBetween 4 sh 3 [some (.ref c), some (.int v1), some (.int v2), some (.int v3), some (.int v4)] [.int v2, .int v1, .ref c] hp (some (.int res)) hp
  replace hf := bnd hf
  obtain ⟨r1, hr1, hf⟩ := hf
  refine Fx.callV (rr := (some (.int r1))) (hp1 := hp) [.int v1, .int v2] [] lk_9_56 (by decide +kernel) (t_Mo_startOf sh c (hS) hp v1 v2 r1 hr1) ⟨Nat.le_of_ble_eq_true rfl, Nat.le_of_ble_eq_true rfl⟩ (hS).1 (by decide) rfl (Nat.le_of_ble_eq_true rfl) ?_
  show Fx q_Mo_kindBetween 4 sh 6 [some (.ref c), some (.int v1), some (.int v2), some (.int v3), some (.int v4)] [.int r1] hp (some (.int res)) hp
  refine Fx.run [(.aload_n 0, 1, 0, 0, .null), (.iload_n 1, 1, 1, 0, .null), (.iload_n 2, 1, 2, 0, .null)] 9 (by decide +kernel) ?_
  show Fx q_Mo_kindBetween 4 sh 9 [some (.ref c), some (.int v1), some (.int v2), some (.int v3), some (.int v4)] [.int v2, .int v1, .ref c, .int r1] hp (some (.int res)) hp
  replace hf := bnd hf
  obtain ⟨r2, hr2, hf⟩ := hf
  refine Fx.callV (rr := (some (.int r2))) (hp1 := hp) [.int v1, .int v2] [.int r1] lk_9_59 (by decide +kernel) (t_Mo_endOf sh c (hS) hp v1 v2 r2 hr2) ⟨Nat.le_of_ble_eq_true rfl, Nat.le_of_ble_eq_true rfl⟩ (hS).1 (by decide) rfl (Nat.le_of_ble_eq_true rfl) ?_
  show Fx q_Mo_kindBetween 4 sh 12 [some (.ref c), some (.int v1), some (.int v2), some (.int v3), some (.int v4)] [.int r2, .int r1] hp (some (.int res)) hp
  refine Fx.run [(.aload_n 0, 1, 0, 0, .null), (.iload_n 3, 1, 3, 0, .null), (.iload 4, 2, 4, 0, .null)] 16 (by decide +kernel) ?_
  show Fx q_Mo_kindBetween 4 sh 16 [some (.ref c), some (.int v1), some (.int v2), some (.int v3), some (.int v4)] [.int v4, .int v3, .ref c, .int r2, .int r1] hp (some (.int res)) hp
  replace hf := bnd hf
  obtain ⟨r3, hr3, hf⟩ := hf
  refine Fx.callV (rr := (some (.int r3))) (hp1 := hp) [.int v3, .int v4] [.int r2, .int r1] lk_9_56 (by decide +kernel) (t_Mo_startOf sh c (hS) hp v3 v4 r3 hr3) ⟨Nat.le_of_ble_eq_true rfl, Nat.le_of_ble_eq_true rfl⟩ (hS).1 (by decide) rfl (Nat.le_of_ble_eq_true rfl) ?_
  show Fx q_Mo_kindBetween 4 sh 19 [some (.ref c), some (.int v1), some (.int v2), some (.int v3), some (.int v4)] [.int r3, .int r2, .int r1] hp (some (.int res)) hp
  refine Fx.run [(.aload_n 0, 1, 0, 0, .null), (.iload_n 3, 1, 3, 0, .null), (.iload 4, 2, 4, 0, .null)] 23 (by decide +kernel) ?_
  show Fx q_Mo_kindBetween 4 sh 23 [some (.ref c), some (.int v1), some (.int v2), some (.int v3), some (.int v4)] [.int v4, .int v3, .ref c, .int r3, .int r2, .int r1] hp (some (.int res)) hp
  replace hf := bnd hf
  obtain ⟨r4, hr4, hf⟩ := hf
  refine Fx.callV (rr := (some (.int r4))) (hp1 := hp) [.int v3, .int v4] [.int r3, .int r2, .int r1] lk_9_59 (by decide +kernel) (t_Mo_endOf sh c (hS) hp v3 v4 r4 hr4) ⟨Nat.le_of_ble_eq_true rfl, Nat.le_of_ble_eq_true rfl⟩ (hS).1 (by decide) rfl (Nat.le_of_ble_eq_true rfl) ?_
  show Fx q_Mo_kindBetween 4 sh 26 [some (.ref c), some (.int v1), some (.int v2), some (.int v3), some (.int v4)] [.int r4, .int r3, .int r2, .int r1] hp (some (.int res)) hp
  replace hf := bnd hf
  obtain ⟨r5, hr5, hf⟩ := hf
  refine Fx.callS (rr := (some (.int r5))) (hp1 := hp) [.int r1, .int r2, .int r3, .int r4] [] lk_9_62 (by decide +kernel) (t_Mo_kindOf sh hp r1 r2 r3 r4 r5 hr5) ⟨Nat.le_of_ble_eq_true rfl, Nat.le_of_ble_eq_true rfl⟩ rfl (Nat.le_of_ble_eq_true rfl) ?_
  show Fx q_Mo_kindBetween 4 sh 29 [some (.ref c), some (.int v1), some (.int v2), some (.int v3), some (.int v4)] [.int r5] hp (some (.int res)) hp
  obtain rfl := Option.some.inj hf
  have hk : r5 = res := hk
  subst hk
  exact Fx.iret (by decide +kernel) rfl
set_option maxHeartbeats 4000000 in
set_option maxRecDepth 20000 in
theorem t_Mo_doShare (sh : Shp) (c : Nat) (hS : S_Mo sh c) (hp : HP) (v1 : Int32) (v2 : Int32) (v3 : Int32) (res : Int32) (hf : f_Mo_doShare c hp v1 v2 v3 = some res) : Ex 5 q_Mo_doShare sh [.ref c, .int v1, .int v2, .int v3] hp (some (.int res)) hp := by
  refine Ex.of [some (.ref c), some (.int v1), some (.int v2), some (.int v3)] rfl (Nat.le_of_ble_eq_true rfl) (by decide +kernel) rfl ?_
  obtain ⟨t, hk⟩ : ∃ t, t = res := ⟨res, rfl⟩
  rw [← hk] at hf
  unfold f_Mo_doShare at hf
  refine Fx.run [(.aload_n 0, 1, 0, 0, .null), (.iload_n 1, 1, 1, 0, .null), (.iload_n 2, 1, 2, 0, .null), (.iload_n 1, 1, 1, 0, .null), (.iload_n 3, 1, 3, 0, .null)] 5 (by decide +kernel) ?_
  show Fx q_Mo_doShare 5 sh 5 [some (.ref c), some (.int v1), some (.int v2), some (.int v3)] [.int v3, .int v1, .int v2, .int v1, .ref c] hp (some (.int res)) hp
  replace hf := bnd hf
  obtain ⟨r1, hr1, hf⟩ := hf
  refine Fx.callV (rr := (some (.int r1))) (hp1 := hp) [.int v1, .int v2, .int v1, .int v3] [] lk_9_66 (by decide +kernel) (t_Mo_kindBetween sh c (hS) hp v1 v2 v1 v3 r1 hr1) ⟨Nat.le_of_ble_eq_true rfl, Nat.le_of_ble_eq_true rfl⟩ (hS).1 (by decide) rfl (Nat.le_of_ble_eq_true rfl) ?_
  show Fx q_Mo_doShare 5 sh 8 [some (.ref c), some (.int v1), some (.int v2), some (.int v3)] [.int r1] hp (some (.int res)) hp
  refine Fx.run [(.iconst 2, 1, 0, 0, .int 2), (.bipush 10, 2, 0, 0, .int 10)] 11 (by decide +kernel) ?_
  show Fx q_Mo_doShare 5 sh 11 [some (.ref c), some (.int v1), some (.int v2), some (.int v3)] [.int 10, .int 2, .int r1] hp (some (.int res)) hp
  replace hf := bnd hf
  obtain ⟨r2, hr2, hf⟩ := hf
  refine Fx.callS (rr := (some (.int r2))) (hp1 := hp) [.int r1, .int 2, .int 10] [] lk_9_48 (by decide +kernel) (t_Mo_isIn sh hp r1 2 10 r2 hr2) ⟨Nat.le_of_ble_eq_true rfl, Nat.le_of_ble_eq_true rfl⟩ rfl (Nat.le_of_ble_eq_true rfl) ?_
  show Fx q_Mo_doShare 5 sh 14 [some (.ref c), some (.int v1), some (.int v2), some (.int v3)] [.int r2] hp (some (.int res)) hp
  replace hf := gd hf
  obtain ⟨g3, hf⟩ := hf
  obtain rfl := Option.some.inj hf
  have hk : r2 = res := hk
  subst hk
  exact Fx.zret (by decide +kernel) rfl g3
set_option maxHeartbeats 4000000 in
set_option maxRecDepth 20000 in
theorem t_Mo_isKeyed (sh : Shp) (c : Nat) (hS : S_Mo sh c) (hp : HP) (v1 : Int32) (v2 : Int32) (res : Int32) (hf : f_Mo_isKeyed c hp v1 v2 = some res) : Ex 3 q_Mo_isKeyed sh [.ref c, .int v1, .int v2] hp (some (.int res)) hp := by
  refine Ex.of [some (.ref c), some (.int v1), some (.int v2)] rfl (Nat.le_of_ble_eq_true rfl) (by decide +kernel) rfl ?_
  obtain ⟨t, hk⟩ : ∃ t, t = res := ⟨res, rfl⟩
  rw [← hk] at hf
  unfold f_Mo_isKeyed at hf
  refine Fx.run [(.aload_n 0, 1, 0, 0, .null), (.getfield 9, 3, 9, 0, .ref 1), (.iconst 0, 1, 0, 0, .int 0), (.iaload, 1, 4100, 0, .null)] 6 (by decide +kernel) ?_
  show isK sh c 9 ∧ (isA sh (c + 1) 10 4100 ∧ inb 0 4100) ∧ Fx q_Mo_isKeyed 3 sh 6 [some (.ref c), some (.int v1), some (.int v2)] [.int (hp.1 (c + 1) (ix 0))] hp (some (.int res)) hp
  refine ⟨hS.1, ⟨hS.2.1, (by decide)⟩, ?_⟩
  refine Fx.if_eq (20) 26 9 (by decide +kernel) (fun b1 => ?_) (fun b1 => ?_)
  · replace hf := ifp b1 hf
    refine Fx.run [(.iconst 1, 1, 0, 0, .int 1)] 27 (by decide +kernel) ?_
    show Fx q_Mo_isKeyed 3 sh 27 [some (.ref c), some (.int v1), some (.int v2)] [.int 1] hp (some (.int res)) hp
    refine Fx.goto (4) 31 (by decide +kernel) ?_
    obtain rfl := Option.some.inj hf
    have hk : 1 = res := hk
    subst hk
    exact Fx.zret (by decide +kernel) rfl (Or.inr rfl)
  · replace hf := ifn b1 hf
    refine Fx.run [(.aload_n 0, 1, 0, 0, .null), (.iconst 0, 1, 0, 0, .int 0), (.iload_n 1, 1, 1, 0, .null), (.iconst 1, 1, 0, 0, .int 1)] 13 (by decide +kernel) ?_
    show Fx q_Mo_isKeyed 3 sh 13 [some (.ref c), some (.int v1), some (.int v2)] [.int 1, .int v1, .int 0, .ref c] hp (some (.int res)) hp
    replace hf := bnd hf
    obtain ⟨r2, hr2, hf⟩ := hf
    refine Fx.callV (rr := (some (.int r2))) (hp1 := hp) [.int 0, .int v1, .int 1] [] lk_9_44 (by decide +kernel) (t_Mo_of sh c (hS) hp 0 v1 1 r2 hr2) ⟨Nat.le_of_ble_eq_true rfl, Nat.le_of_ble_eq_true rfl⟩ (hS).1 (by decide) rfl (Nat.le_of_ble_eq_true rfl) ?_
    show Fx q_Mo_isKeyed 3 sh 16 [some (.ref c), some (.int v1), some (.int v2)] [.int r2] hp (some (.int res)) hp
    refine Fx.run [(.aload_n 0, 1, 0, 0, .null), (.iconst 1, 1, 0, 0, .int 1), (.iload_n 2, 1, 2, 0, .null), (.iconst 1, 1, 0, 0, .int 1)] 20 (by decide +kernel) ?_
    show Fx q_Mo_isKeyed 3 sh 20 [some (.ref c), some (.int v1), some (.int v2)] [.int 1, .int v2, .int 1, .ref c, .int r2] hp (some (.int res)) hp
    replace hf := bnd hf
    obtain ⟨r3, hr3, hf⟩ := hf
    refine Fx.callV (rr := (some (.int r3))) (hp1 := hp) [.int 1, .int v2, .int 1] [.int r2] lk_9_44 (by decide +kernel) (t_Mo_of sh c (hS) hp 1 v2 1 r3 hr3) ⟨Nat.le_of_ble_eq_true rfl, Nat.le_of_ble_eq_true rfl⟩ (hS).1 (by decide) rfl (Nat.le_of_ble_eq_true rfl) ?_
    show Fx q_Mo_isKeyed 3 sh 23 [some (.ref c), some (.int v1), some (.int v2)] [.int r3, .int r2] hp (some (.int res)) hp
    refine Fx.icmp_ne (7) 30 26 (by decide +kernel) (fun b4 => ?_) (fun b4 => ?_)
    · replace hf := ifn b4 hf
      refine Fx.run [(.iconst 0, 1, 0, 0, .int 0)] 31 (by decide +kernel) ?_
      show Fx q_Mo_isKeyed 3 sh 31 [some (.ref c), some (.int v1), some (.int v2)] [.int 0] hp (some (.int res)) hp
      obtain rfl := Option.some.inj hf
      have hk : 0 = res := hk
      subst hk
      exact Fx.zret (by decide +kernel) rfl (Or.inl rfl)
    · replace hf := ifp b4 hf
      refine Fx.run [(.iconst 1, 1, 0, 0, .int 1)] 27 (by decide +kernel) ?_
      show Fx q_Mo_isKeyed 3 sh 27 [some (.ref c), some (.int v1), some (.int v2)] [.int 1] hp (some (.int res)) hp
      refine Fx.goto (4) 31 (by decide +kernel) ?_
      obtain rfl := Option.some.inj hf
      have hk : 1 = res := hk
      subst hk
      exact Fx.zret (by decide +kernel) rfl (Or.inr rfl)
set_option maxHeartbeats 4000000 in
set_option maxRecDepth 20000 in
theorem t_Mo_arePartners (sh : Shp) (c : Nat) (hS : S_Mo sh c) (hp : HP) (v1 : Int32) (v2 : Int32) (res : Int32) (hf : f_Mo_arePartners c hp v1 v2 = some res) : Ex 5 q_Mo_arePartners sh [.ref c, .int v1, .int v2] hp (some (.int res)) hp := by
  refine Ex.of [some (.ref c), some (.int v1), some (.int v2)] rfl (Nat.le_of_ble_eq_true rfl) (by decide +kernel) rfl ?_
  obtain ⟨t, hk⟩ : ∃ t, t = res := ⟨res, rfl⟩
  rw [← hk] at hf
  unfold f_Mo_arePartners at hf
  refine Fx.run [(.aload_n 0, 1, 0, 0, .null), (.iload_n 1, 1, 1, 0, .null), (.iload_n 2, 1, 2, 0, .null)] 3 (by decide +kernel) ?_
  show Fx q_Mo_arePartners 5 sh 3 [some (.ref c), some (.int v1), some (.int v2)] [.int v2, .int v1, .ref c] hp (some (.int res)) hp
  replace hf := bnd hf
  obtain ⟨r1, hr1, hf⟩ := hf
  refine Fx.callV (rr := (some (.int r1))) (hp1 := hp) [.int v1, .int v2] [] lk_9_69 (by decide +kernel) (t_Mo_isKeyed sh c (hS) hp v1 v2 r1 hr1) ⟨Nat.le_of_ble_eq_true rfl, Nat.le_of_ble_eq_true rfl⟩ (hS).1 (by decide) rfl (Nat.le_of_ble_eq_true rfl) ?_
  show Fx q_Mo_arePartners 5 sh 6 [some (.ref c), some (.int v1), some (.int v2)] [.int r1] hp (some (.int res)) hp
  refine Fx.if_eq (27) 33 9 (by decide +kernel) (fun b2 => ?_) (fun b2 => ?_)
  · replace hf := ifp b2 hf
    refine Fx.run [(.iconst 0, 1, 0, 0, .int 0)] 34 (by decide +kernel) ?_
    show Fx q_Mo_arePartners 5 sh 34 [some (.ref c), some (.int v1), some (.int v2)] [.int 0] hp (some (.int res)) hp
    obtain rfl := Option.some.inj hf
    have hk : 0 = res := hk
    subst hk
    exact Fx.zret (by decide +kernel) rfl (Or.inl rfl)
  · replace hf := ifn b2 hf
    refine Fx.run [(.aload_n 0, 1, 0, 0, .null), (.getfield 9, 3, 9, 0, .ref 1), (.iconst 1, 1, 0, 0, .int 1), (.iaload, 1, 4100, 0, .null), (.aload_n 0, 1, 0, 0, .null), (.iconst 0, 1, 0, 0, .int 0), (.iload_n 1, 1, 1, 0, .null), (.iconst 1, 1, 0, 0, .int 1), (.iload_n 2, 1, 2, 0, .null)] 20 (by decide +kernel) ?_
    show isK sh c 9 ∧ (isA sh (c + 1) 10 4100 ∧ inb 1 4100) ∧ Fx q_Mo_arePartners 5 sh 20 [some (.ref c), some (.int v1), some (.int v2)] [.int v2, .int 1, .int v1, .int 0, .ref c, .int (hp.1 (c + 1) (ix 1))] hp (some (.int res)) hp
    refine ⟨hS.1, ⟨hS.2.1, (by decide)⟩, ?_⟩
    replace hf := bnd hf
    obtain ⟨r3, hr3, hf⟩ := hf
    refine Fx.callV (rr := (some (.int r3))) (hp1 := hp) [.int 0, .int v1, .int 1, .int v2] [.int (hp.1 (c + 1) (ix 1))] lk_9_66 (by decide +kernel) (t_Mo_kindBetween sh c (hS) hp 0 v1 1 v2 r3 hr3) ⟨Nat.le_of_ble_eq_true rfl, Nat.le_of_ble_eq_true rfl⟩ (hS).1 (by decide) rfl (Nat.le_of_ble_eq_true rfl) ?_
    show Fx q_Mo_arePartners 5 sh 23 [some (.ref c), some (.int v1), some (.int v2)] [.int r3, .int (hp.1 (c + 1) (ix 1))] hp (some (.int res)) hp
    replace hf := bnd hf
    obtain ⟨r4, hr4, hf⟩ := hf
    refine Fx.callS (rr := (some (.int r4))) (hp1 := hp) [.int (hp.1 (c + 1) (ix 1)), .int r3] [] lk_9_73 (by decide +kernel) (t_Mo_has sh hp (hp.1 (c + 1) (ix 1)) r3 r4 hr4) ⟨Nat.le_of_ble_eq_true rfl, Nat.le_of_ble_eq_true rfl⟩ rfl (Nat.le_of_ble_eq_true rfl) ?_
    show Fx q_Mo_arePartners 5 sh 26 [some (.ref c), some (.int v1), some (.int v2)] [.int r4] hp (some (.int res)) hp
    refine Fx.if_eq (7) 33 29 (by decide +kernel) (fun b5 => ?_) (fun b5 => ?_)
    · replace hf := ifp b5 hf
      refine Fx.run [(.iconst 0, 1, 0, 0, .int 0)] 34 (by decide +kernel) ?_
      show Fx q_Mo_arePartners 5 sh 34 [some (.ref c), some (.int v1), some (.int v2)] [.int 0] hp (some (.int res)) hp
      obtain rfl := Option.some.inj hf
      have hk : 0 = res := hk
      subst hk
      exact Fx.zret (by decide +kernel) rfl (Or.inl rfl)
    · replace hf := ifn b5 hf
      refine Fx.run [(.iconst 1, 1, 0, 0, .int 1)] 30 (by decide +kernel) ?_
      show Fx q_Mo_arePartners 5 sh 30 [some (.ref c), some (.int v1), some (.int v2)] [.int 1] hp (some (.int res)) hp
      refine Fx.goto (4) 34 (by decide +kernel) ?_
      obtain rfl := Option.some.inj hf
      have hk : 1 = res := hk
      subst hk
      exact Fx.zret (by decide +kernel) rfl (Or.inr rfl)
set_option maxHeartbeats 4000000 in
set_option maxRecDepth 20000 in
theorem t_Mo_isPartner (sh : Shp) (c : Nat) (hS : S_Mo sh c) (hp : HP) (v1 : Int32) (v2 : Int32) (v3 : Int32) (res : Int32) (hf : f_Mo_isPartner c hp v1 v2 v3 = some res) : Ex 6 q_Mo_isPartner sh [.ref c, .int v1, .int v2, .int v3] hp (some (.int res)) hp := by
  refine Ex.of [some (.ref c), some (.int v1), some (.int v2), some (.int v3)] rfl (Nat.le_of_ble_eq_true rfl) (by decide +kernel) rfl ?_
  obtain ⟨t, hk⟩ : ∃ t, t = res := ⟨res, rfl⟩
  rw [← hk] at hf
  unfold f_Mo_isPartner at hf
  refine Fx.run [(.iload_n 1, 1, 1, 0, .null)] 1 (by decide +kernel) ?_
  show Fx q_Mo_isPartner 6 sh 1 [some (.ref c), some (.int v1), some (.int v2), some (.int v3)] [.int v1] hp (some (.int res)) hp
  refine Fx.if_ne (12) 13 4 (by decide +kernel) (fun b1 => ?_) (fun b1 => ?_)
  · replace hf := ifn b1 hf
    refine Fx.run [(.aload_n 0, 1, 0, 0, .null), (.iload_n 3, 1, 3, 0, .null), (.iload_n 2, 1, 2, 0, .null)] 16 (by decide +kernel) ?_
    show Fx q_Mo_isPartner 6 sh 16 [some (.ref c), some (.int v1), some (.int v2), some (.int v3)] [.int v2, .int v3, .ref c] hp (some (.int res)) hp
    replace hf := bnd hf
    obtain ⟨r2, hr2, hf⟩ := hf
    refine Fx.callV (rr := (some (.int r2))) (hp1 := hp) [.int v3, .int v2] [] lk_9_76 (by decide +kernel) (t_Mo_arePartners sh c (hS) hp v3 v2 r2 hr2) ⟨Nat.le_of_ble_eq_true rfl, Nat.le_of_ble_eq_true rfl⟩ (hS).1 (by decide) rfl (Nat.le_of_ble_eq_true rfl) ?_
    show Fx q_Mo_isPartner 6 sh 19 [some (.ref c), some (.int v1), some (.int v2), some (.int v3)] [.int r2] hp (some (.int res)) hp
    replace hf := gd hf
    obtain ⟨g3, hf⟩ := hf
    obtain rfl := Option.some.inj hf
    have hk : r2 = res := hk
    subst hk
    exact Fx.zret (by decide +kernel) rfl g3
  · replace hf := ifp b1 hf
    refine Fx.run [(.aload_n 0, 1, 0, 0, .null), (.iload_n 2, 1, 2, 0, .null), (.iload_n 3, 1, 3, 0, .null)] 7 (by decide +kernel) ?_
    show Fx q_Mo_isPartner 6 sh 7 [some (.ref c), some (.int v1), some (.int v2), some (.int v3)] [.int v3, .int v2, .ref c] hp (some (.int res)) hp
    replace hf := bnd hf
    obtain ⟨r4, hr4, hf⟩ := hf
    refine Fx.callV (rr := (some (.int r4))) (hp1 := hp) [.int v2, .int v3] [] lk_9_76 (by decide +kernel) (t_Mo_arePartners sh c (hS) hp v2 v3 r4 hr4) ⟨Nat.le_of_ble_eq_true rfl, Nat.le_of_ble_eq_true rfl⟩ (hS).1 (by decide) rfl (Nat.le_of_ble_eq_true rfl) ?_
    show Fx q_Mo_isPartner 6 sh 10 [some (.ref c), some (.int v1), some (.int v2), some (.int v3)] [.int r4] hp (some (.int res)) hp
    refine Fx.goto (9) 19 (by decide +kernel) ?_
    replace hf := gd hf
    obtain ⟨g5, hf⟩ := hf
    obtain rfl := Option.some.inj hf
    have hk : r4 = res := hk
    subst hk
    exact Fx.zret (by decide +kernel) rfl g5
set_option maxHeartbeats 4000000 in
set_option maxRecDepth 20000 in
theorem t_Mo_causes (sh : Shp) (c : Nat) (hS : S_Mo sh c) (hp : HP) (v1 : Int32) (v2 : Int32) (res : HP) (hf : f_Mo_causes c hp v1 v2 = some res) : Ex 1 q_Mo_causes sh [.ref c, .int v1, .int v2] hp none res := by
  refine Ex.of [some (.ref c), some (.int v1), some (.int v2)] rfl (Nat.le_of_ble_eq_true rfl) (by decide +kernel) rfl ?_
  obtain ⟨t, hk⟩ : ∃ t, t = res := ⟨res, rfl⟩
  rw [← hk] at hf
  unfold f_Mo_causes at hf
  replace hf := gd hf
  obtain ⟨g1, hf⟩ := hf
  replace hf := gd hf
  obtain ⟨g2, hf⟩ := hf
  refine Fx.run [(.aload_n 0, 1, 0, 0, .null), (.getfield 9, 3, 9, 0, .ref 1), (.sipush 606, 3, 0, 0, .int 606), (.iconst 2, 1, 0, 0, .int 2), (.aload_n 0, 1, 0, 0, .null), (.getfield 9, 3, 9, 0, .ref 1), (.sipush 605, 3, 0, 0, .int 605), (.iaload, 1, 4100, 0, .null), (.imul, 1, 0, 0, .null), (.iadd, 1, 0, 0, .null), (.iload_n 1, 1, 1, 0, .null), (.iastore, 1, 4100, 0, .null), (.aload_n 0, 1, 0, 0, .null), (.getfield 9, 3, 9, 0, .ref 1), (.sipush 606, 3, 0, 0, .int 606), (.iconst 2, 1, 0, 0, .int 2), (.aload_n 0, 1, 0, 0, .null), (.getfield 9, 3, 9, 0, .ref 1), (.sipush 605, 3, 0, 0, .int 605), (.iaload, 1, 4100, 0, .null), (.imul, 1, 0, 0, .null), (.iadd, 1, 0, 0, .null), (.iconst 1, 1, 0, 0, .int 1), (.iadd, 1, 0, 0, .null), (.iload_n 2, 1, 2, 0, .null), (.iastore, 1, 4100, 0, .null), (.aload_n 0, 1, 0, 0, .null), (.getfield 9, 3, 9, 0, .ref 1), (.sipush 605, 3, 0, 0, .int 605), (.dup2, 1, 0, 0, .null), (.iaload, 1, 4100, 0, .null), (.iconst 1, 1, 0, 0, .int 1), (.iadd, 1, 0, 0, .null), (.iastore, 1, 4100, 0, .null)] 54 (by decide +kernel) ?_
  show isK sh c 9 ∧ isK sh c 9 ∧ (isA sh (c + 1) 10 4100 ∧ inb 605 4100) ∧ (isA sh (c + 1) 10 4100 ∧ inb (606 + (2 * (hp.1 (c + 1) (ix 605)))) 4100) ∧ isK sh c 9 ∧ isK sh c 9 ∧ (isA sh (c + 1) 10 4100 ∧ inb 605 4100) ∧ (isA sh (c + 1) 10 4100 ∧ inb ((606 + (2 * ((upI hp (c + 1) (ix (606 + (2 * (hp.1 (c + 1) (ix 605))))) v1).1 (c + 1) (ix 605)))) + 1) 4100) ∧ isK sh c 9 ∧ (isA sh (c + 1) 10 4100 ∧ inb 605 4100) ∧ (isA sh (c + 1) 10 4100 ∧ inb 605 4100) ∧ Fx q_Mo_causes 1 sh 54 [some (.ref c), some (.int v1), some (.int v2)] [] (upI (upI (upI hp (c + 1) (ix (606 + (2 * (hp.1 (c + 1) (ix 605))))) v1) (c + 1) (ix ((606 + (2 * ((upI hp (c + 1) (ix (606 + (2 * (hp.1 (c + 1) (ix 605))))) v1).1 (c + 1) (ix 605)))) + 1)) v2) (c + 1) (ix 605) (((upI (upI hp (c + 1) (ix (606 + (2 * (hp.1 (c + 1) (ix 605))))) v1) (c + 1) (ix ((606 + (2 * ((upI hp (c + 1) (ix (606 + (2 * (hp.1 (c + 1) (ix 605))))) v1).1 (c + 1) (ix 605)))) + 1)) v2).1 (c + 1) (ix 605)) + 1)) none res
  refine ⟨hS.1, hS.1, ⟨hS.2.1, (by decide)⟩, ⟨hS.2.1, g1⟩, hS.1, hS.1, ⟨hS.2.1, (by decide)⟩, ⟨hS.2.1, g2⟩, hS.1, ⟨hS.2.1, (by decide)⟩, ⟨hS.2.1, (by decide)⟩, ?_⟩
  obtain rfl := Option.some.inj hf
  have hk : (upI (upI (upI hp (c + 1) (ix (606 + (2 * (hp.1 (c + 1) (ix 605))))) v1) (c + 1) (ix ((606 + (2 * ((upI hp (c + 1) (ix (606 + (2 * (hp.1 (c + 1) (ix 605))))) v1).1 (c + 1) (ix 605)))) + 1)) v2) (c + 1) (ix 605) (((upI (upI hp (c + 1) (ix (606 + (2 * (hp.1 (c + 1) (ix 605))))) v1) (c + 1) (ix ((606 + (2 * ((upI hp (c + 1) (ix (606 + (2 * (hp.1 (c + 1) (ix 605))))) v1).1 (c + 1) (ix 605)))) + 1)) v2).1 (c + 1) (ix 605)) + 1)) = res := hk
  subst hk
  exact Fx.vret (by decide +kernel) rfl
set_option maxHeartbeats 4000000 in
set_option maxRecDepth 20000 in
theorem t_Mo_trouble (sh : Shp) (c : Nat) (hS : S_Mo sh c) (hp : HP) (v1 : Int32) (v2 : Int32) (res : Int32) (hf : f_Mo_trouble c hp v1 v2 = some res) : Ex 2 q_Mo_trouble sh [.ref c, .int v1, .int v2] hp (some (.int res)) hp := by
  refine Ex.of [some (.ref c), some (.int v1), some (.int v2)] rfl (Nat.le_of_ble_eq_true rfl) (by decide +kernel) rfl ?_
  obtain ⟨t, hk⟩ : ∃ t, t = res := ⟨res, rfl⟩
  rw [← hk] at hf
  unfold f_Mo_trouble at hf
  refine Fx.run [(.iload_n 1, 1, 1, 0, .null), (.iconst (-1), 1, 0, 0, .int (-1))] 2 (by decide +kernel) ?_
  show Fx q_Mo_trouble 2 sh 2 [some (.ref c), some (.int v1), some (.int v2)] [.int (-1), .int v1] hp (some (.int res)) hp
  refine Fx.icmp_ne (12) 14 5 (by decide +kernel) (fun b1 => ?_) (fun b1 => ?_)
  · replace hf := ifn b1 hf
    refine Fx.run [(.iload_n 1, 1, 1, 0, .null), (.iconst 0, 1, 0, 0, .int 0), (.aload_n 0, 1, 0, 0, .null), (.getfield 9, 3, 9, 0, .ref 1), (.sipush 605, 3, 0, 0, .int 605), (.iaload, 1, 4100, 0, .null), (.iconst 1, 1, 0, 0, .int 1), (.isub, 1, 0, 0, .null)] 26 (by decide +kernel) ?_
    show isK sh c 9 ∧ (isA sh (c + 1) 10 4100 ∧ inb 605 4100) ∧ Fx q_Mo_trouble 2 sh 26 [some (.ref c), some (.int v1), some (.int v2)] [.int ((hp.1 (c + 1) (ix 605)) - 1), .int 0, .int v1] hp (some (.int res)) hp
    refine ⟨hS.1, ⟨hS.2.1, (by decide)⟩, ?_⟩
    replace hf := bnd hf
    obtain ⟨r2, hr2, hf⟩ := hf
    refine Fx.callS (rr := (some (.int r2))) (hp1 := hp) [.int v1, .int 0, .int ((hp.1 (c + 1) (ix 605)) - 1)] [] lk_9_48 (by decide +kernel) (t_Mo_isIn sh hp v1 0 ((hp.1 (c + 1) (ix 605)) - 1) r2 hr2) ⟨Nat.le_of_ble_eq_true rfl, Nat.le_of_ble_eq_true rfl⟩ rfl (Nat.le_of_ble_eq_true rfl) ?_
    show Fx q_Mo_trouble 2 sh 29 [some (.ref c), some (.int v1), some (.int v2)] [.int r2] hp (some (.int res)) hp
    refine Fx.if_eq (29) 58 32 (by decide +kernel) (fun b3 => ?_) (fun b3 => ?_)
    · replace hf := ifp b3 hf
      refine Fx.run [(.ldc 79, 2, 0, 0, .int (-10000000))] 60 (by decide +kernel) ?_
      show Fx q_Mo_trouble 2 sh 60 [some (.ref c), some (.int v1), some (.int v2)] [.int (-10000000)] hp (some (.int res)) hp
      obtain rfl := Option.some.inj hf
      have hk : (-10000000) = res := hk
      subst hk
      exact Fx.iret (by decide +kernel) rfl
    · replace hf := ifn b3 hf
      refine Fx.run [(.iload_n 2, 1, 2, 0, .null), (.iconst 0, 1, 0, 0, .int 0), (.iconst 1, 1, 0, 0, .int 1)] 35 (by decide +kernel) ?_
      show Fx q_Mo_trouble 2 sh 35 [some (.ref c), some (.int v1), some (.int v2)] [.int 1, .int 0, .int v2] hp (some (.int res)) hp
      replace hf := bnd hf
      obtain ⟨r4, hr4, hf⟩ := hf
      refine Fx.callS (rr := (some (.int r4))) (hp1 := hp) [.int v2, .int 0, .int 1] [] lk_9_48 (by decide +kernel) (t_Mo_isIn sh hp v2 0 1 r4 hr4) ⟨Nat.le_of_ble_eq_true rfl, Nat.le_of_ble_eq_true rfl⟩ rfl (Nat.le_of_ble_eq_true rfl) ?_
      show Fx q_Mo_trouble 2 sh 38 [some (.ref c), some (.int v1), some (.int v2)] [.int r4] hp (some (.int res)) hp
      refine Fx.if_eq (20) 58 41 (by decide +kernel) (fun b5 => ?_) (fun b5 => ?_)
      · replace hf := ifp b5 hf
        refine Fx.run [(.ldc 79, 2, 0, 0, .int (-10000000))] 60 (by decide +kernel) ?_
        show Fx q_Mo_trouble 2 sh 60 [some (.ref c), some (.int v1), some (.int v2)] [.int (-10000000)] hp (some (.int res)) hp
        obtain rfl := Option.some.inj hf
        have hk : (-10000000) = res := hk
        subst hk
        exact Fx.iret (by decide +kernel) rfl
      · replace hf := ifn b5 hf
        replace hf := gd hf
        obtain ⟨g6, hf⟩ := hf
        refine Fx.run [(.aload_n 0, 1, 0, 0, .null), (.getfield 9, 3, 9, 0, .ref 1), (.sipush 606, 3, 0, 0, .int 606), (.iconst 2, 1, 0, 0, .int 2), (.iload_n 1, 1, 1, 0, .null), (.imul, 1, 0, 0, .null), (.iadd, 1, 0, 0, .null), (.iload_n 2, 1, 2, 0, .null), (.iadd, 1, 0, 0, .null), (.iaload, 1, 4100, 0, .null)] 55 (by decide +kernel) ?_
        show isK sh c 9 ∧ (isA sh (c + 1) 10 4100 ∧ inb ((606 + (2 * v1)) + v2) 4100) ∧ Fx q_Mo_trouble 2 sh 55 [some (.ref c), some (.int v1), some (.int v2)] [.int (hp.1 (c + 1) (ix ((606 + (2 * v1)) + v2)))] hp (some (.int res)) hp
        refine ⟨hS.1, ⟨hS.2.1, g6⟩, ?_⟩
        refine Fx.goto (5) 60 (by decide +kernel) ?_
        obtain rfl := Option.some.inj hf
        have hk : (hp.1 (c + 1) (ix ((606 + (2 * v1)) + v2))) = res := hk
        subst hk
        exact Fx.iret (by decide +kernel) rfl
  · replace hf := ifp b1 hf
    refine Fx.run [(.aload_n 0, 1, 0, 0, .null), (.getfield 9, 3, 9, 0, .ref 1), (.sipush 605, 3, 0, 0, .int 605), (.iaload, 1, 4100, 0, .null)] 13 (by decide +kernel) ?_
    show isK sh c 9 ∧ (isA sh (c + 1) 10 4100 ∧ inb 605 4100) ∧ Fx q_Mo_trouble 2 sh 13 [some (.ref c), some (.int v1), some (.int v2)] [.int (hp.1 (c + 1) (ix 605))] hp (some (.int res)) hp
    refine ⟨hS.1, ⟨hS.2.1, (by decide)⟩, ?_⟩
    obtain rfl := Option.some.inj hf
    have hk : (hp.1 (c + 1) (ix 605)) = res := hk
    subst hk
    exact Fx.iret (by decide +kernel) rfl
set_option maxHeartbeats 4000000 in
set_option maxRecDepth 20000 in
theorem t_Mo_isSweeping (sh : Shp) (c : Nat) (hS : S_Mo sh c) (hp : HP)  (res : Int32) (hf : f_Mo_isSweeping c hp  = some res) : Ex 1 q_Mo_isSweeping sh [.ref c] hp (some (.int res)) hp := by
  refine Ex.of [some (.ref c)] rfl (Nat.le_of_ble_eq_true rfl) (by decide +kernel) rfl ?_
  obtain ⟨t, hk⟩ : ∃ t, t = res := ⟨res, rfl⟩
  rw [← hk] at hf
  unfold f_Mo_isSweeping at hf
  refine Fx.run [(.aload_n 0, 1, 0, 0, .null), (.getfield 9, 3, 9, 0, .ref 1), (.sipush 614, 3, 0, 0, .int 614), (.iaload, 1, 4100, 0, .null), (.iconst 1, 1, 0, 0, .int 1)] 9 (by decide +kernel) ?_
  show isK sh c 9 ∧ (isA sh (c + 1) 10 4100 ∧ inb 614 4100) ∧ Fx q_Mo_isSweeping 1 sh 9 [some (.ref c)] [.int 1, .int (hp.1 (c + 1) (ix 614))] hp (some (.int res)) hp
  refine ⟨hS.1, ⟨hS.2.1, (by decide)⟩, ?_⟩
  refine Fx.icmp_ne (7) 16 12 (by decide +kernel) (fun b1 => ?_) (fun b1 => ?_)
  · replace hf := ifn b1 hf
    refine Fx.run [(.iconst 0, 1, 0, 0, .int 0)] 17 (by decide +kernel) ?_
    show Fx q_Mo_isSweeping 1 sh 17 [some (.ref c)] [.int 0] hp (some (.int res)) hp
    obtain rfl := Option.some.inj hf
    have hk : 0 = res := hk
    subst hk
    exact Fx.zret (by decide +kernel) rfl (Or.inl rfl)
  · replace hf := ifp b1 hf
    refine Fx.run [(.iconst 1, 1, 0, 0, .int 1)] 13 (by decide +kernel) ?_
    show Fx q_Mo_isSweeping 1 sh 13 [some (.ref c)] [.int 1] hp (some (.int res)) hp
    refine Fx.goto (4) 17 (by decide +kernel) ?_
    obtain rfl := Option.some.inj hf
    have hk : 1 = res := hk
    subst hk
    exact Fx.zret (by decide +kernel) rfl (Or.inr rfl)
set_option maxHeartbeats 4000000 in
set_option maxRecDepth 20000 in
theorem t_Mo_set_j64 (sh : Shp) (c : Nat) (hS : S_Mo sh c) (hp : HP) (v1 : Int32) (v3 : Int32)  (res : (HP × Int32)) (t : (HP × Int32)) (hf : f_Mo_set_j64 c hp v1 v3  = some t) (hk : (fun v => v = res) t) : Fx q_Mo_set 2 sh 64 [some (.ref c), some (.int v1), none, some (.int v3)] [] hp (some (.int res.2)) res.1 := by
  unfold f_Mo_set_j64 at hf
  refine Fx.run [(.aload_n 0, 1, 0, 0, .null), (.bipush 9, 2, 0, 0, .int 9), (.iload_n 1, 1, 1, 0, .null)] 68 (by decide +kernel) ?_
  show Fx q_Mo_set 2 sh 68 [some (.ref c), some (.int v1), none, some (.int v3)] [.int v1, .int 9, .ref c] hp (some (.int res.2)) res.1
  replace hf := bnd hf
  obtain ⟨h5, hr4, hf⟩ := hf
  refine Fx.callV (rr := none) (hp1 := h5) [.int 9, .int v1] [] lk_9_84 (by decide +kernel) (t_Mo_causes sh c (hS) hp 9 v1 h5 hr4) ⟨Nat.le_of_ble_eq_true rfl, Nat.le_of_ble_eq_true rfl⟩ (hS).1 (by decide) rfl (Nat.le_of_ble_eq_true rfl) ?_
  show Fx q_Mo_set 2 sh 71 [some (.ref c), some (.int v1), none, some (.int v3)] [] h5 (some (.int res.2)) res.1
  refine Fx.run [(.iload_n 3, 1, 3, 0, .null)] 72 (by decide +kernel) ?_
  show Fx q_Mo_set 2 sh 72 [some (.ref c), some (.int v1), none, some (.int v3)] [.int v3] h5 (some (.int res.2)) res.1
  refine Fx.if_eq (17) 89 75 (by decide +kernel) (fun b6 => ?_) (fun b6 => ?_)
  · replace hf := ifp b6 hf
    refine Fx.run [(.iconst 0, 1, 0, 0, .int 0)] 90 (by decide +kernel) ?_
    show Fx q_Mo_set 2 sh 90 [some (.ref c), some (.int v1), none, some (.int v3)] [.int 0] h5 (some (.int res.2)) res.1
    obtain rfl := Option.some.inj hf
    have hk : (h5, 0) = res := hk
    subst hk
    exact Fx.zret (by decide +kernel) rfl (Or.inl rfl)
  · replace hf := ifn b6 hf
    refine Fx.run [(.aload_n 0, 1, 0, 0, .null), (.bipush 8, 2, 0, 0, .int 8), (.aload_n 0, 1, 0, 0, .null), (.getfield 9, 3, 9, 0, .ref 1), (.sipush 615, 3, 0, 0, .int 615), (.iaload, 1, 4100, 0, .null)] 86 (by decide +kernel) ?_
    show isK sh c 9 ∧ (isA sh (c + 1) 10 4100 ∧ inb 615 4100) ∧ Fx q_Mo_set 2 sh 86 [some (.ref c), some (.int v1), none, some (.int v3)] [.int (h5.1 (c + 1) (ix 615)), .int 8, .ref c] h5 (some (.int res.2)) res.1
    refine ⟨hS.1, ⟨hS.2.1, (by decide)⟩, ?_⟩
    replace hf := bnd hf
    obtain ⟨h8, hr7, hf⟩ := hf
    refine Fx.callV (rr := none) (hp1 := h8) [.int 8, .int (h5.1 (c + 1) (ix 615))] [] lk_9_84 (by decide +kernel) (t_Mo_causes sh c (hS) h5 8 (h5.1 (c + 1) (ix 615)) h8 hr7) ⟨Nat.le_of_ble_eq_true rfl, Nat.le_of_ble_eq_true rfl⟩ (hS).1 (by decide) rfl (Nat.le_of_ble_eq_true rfl) ?_
    show Fx q_Mo_set 2 sh 89 [some (.ref c), some (.int v1), none, some (.int v3)] [] h8 (some (.int res.2)) res.1
    refine Fx.run [(.iconst 0, 1, 0, 0, .int 0)] 90 (by decide +kernel) ?_
    show Fx q_Mo_set 2 sh 90 [some (.ref c), some (.int v1), none, some (.int v3)] [.int 0] h8 (some (.int res.2)) res.1
    obtain rfl := Option.some.inj hf
    have hk : (h8, 0) = res := hk
    subst hk
    exact Fx.zret (by decide +kernel) rfl (Or.inl rfl)
set_option maxHeartbeats 4000000 in
set_option maxRecDepth 20000 in
theorem t_Mo_set_j41 (sh : Shp) (c : Nat) (hS : S_Mo sh c) (hp : HP) (v1 : Int32) (v2 : Int32) (s0 : Int32) (res : (HP × Int32)) (t : (HP × Int32)) (hf : f_Mo_set_j41 c hp v1 v2 s0 = some t) (hk : (fun v => v = res) t) : Fx q_Mo_set 2 sh 41 [some (.ref c), some (.int v1), some (.int v2), none] [.int s0] hp (some (.int res.2)) res.1 := by
  unfold f_Mo_set_j41 at hf
  refine Fx.run [(.istore_n 3, 1, 3, 0, .null), (.iload_n 3, 1, 3, 0, .null)] 43 (by decide +kernel) ?_
  show Fx q_Mo_set 2 sh 43 [some (.ref c), some (.int v1), some (.int v2), some (.int s0)] [.int s0] hp (some (.int res.2)) res.1
  refine Fx.if_eq (21) 64 46 (by decide +kernel) (fun b3 => ?_) (fun b3 => ?_)
  · replace hf := ifp b3 hf
    have hl := t_Mo_set_j64 sh c hS hp v1 s0  res _ hf hk
    exact Fx.le hl (And.intro rfl (And.intro rfl (And.intro rfl trivial)))
  · replace hf := ifn b3 hf
    refine Fx.run [(.aload_n 0, 1, 0, 0, .null)] 47 (by decide +kernel) ?_
    show Fx q_Mo_set 2 sh 47 [some (.ref c), some (.int v1), some (.int v2), some (.int s0)] [.ref c] hp (some (.int res.2)) res.1
    replace hf := bnd hf
    obtain ⟨r9, hr9, hf⟩ := hf
    refine Fx.callV (rr := (some (.int r9))) (hp1 := hp) [] [] lk_9_80 (by decide +kernel) (t_Mo_isSweeping sh c (hS) hp r9 hr9) ⟨Nat.le_of_ble_eq_true rfl, Nat.le_of_ble_eq_true rfl⟩ (hS).1 (by decide) rfl (Nat.le_of_ble_eq_true rfl) ?_
    show Fx q_Mo_set 2 sh 50 [some (.ref c), some (.int v1), some (.int v2), some (.int s0)] [.int r9] hp (some (.int res.2)) res.1
    refine Fx.if_ne (14) 64 53 (by decide +kernel) (fun b10 => ?_) (fun b10 => ?_)
    · replace hf := ifn b10 hf
      have hl := t_Mo_set_j64 sh c hS hp v1 s0  res _ hf hk
      exact Fx.le hl (And.intro rfl (And.intro rfl (And.intro rfl trivial)))
    · replace hf := ifp b10 hf
      replace hf := gd hf
      obtain ⟨g11, hf⟩ := hf
      refine Fx.run [(.aload_n 0, 1, 0, 0, .null), (.getfield 9, 3, 9, 0, .ref 1), (.iconst 0, 1, 0, 0, .int 0), (.iload_n 1, 1, 1, 0, .null), (.iadd, 1, 0, 0, .null), (.iload_n 2, 1, 2, 0, .null), (.iastore, 1, 4100, 0, .null), (.iconst 1, 1, 0, 0, .int 1)] 63 (by decide +kernel) ?_
      show isK sh c 9 ∧ (isA sh (c + 1) 10 4100 ∧ inb (0 + v1) 4100) ∧ Fx q_Mo_set 2 sh 63 [some (.ref c), some (.int v1), some (.int v2), some (.int s0)] [.int 1] (upI hp (c + 1) (ix (0 + v1)) v2) (some (.int res.2)) res.1
      refine ⟨hS.1, ⟨hS.2.1, g11⟩, ?_⟩
      obtain rfl := Option.some.inj hf
      have hk : ((upI hp (c + 1) (ix (0 + v1)) v2), 1) = res := hk
      subst hk
      exact Fx.zret (by decide +kernel) rfl (Or.inr rfl)
set_option maxHeartbeats 4000000 in
set_option maxRecDepth 20000 in
theorem t_Mo_set (sh : Shp) (c : Nat) (hS : S_Mo sh c) (hp : HP) (v1 : Int32) (v2 : Int32) (res : (HP × Int32)) (hf : f_Mo_set c hp v1 v2 = some res) : Ex 2 q_Mo_set sh [.ref c, .int v1, .int v2] hp (some (.int res.2)) res.1 := by
  refine Ex.of [some (.ref c), some (.int v1), some (.int v2), none] rfl (Nat.le_of_ble_eq_true rfl) (by decide +kernel) rfl ?_
  obtain ⟨t, hk⟩ : ∃ t, t = res := ⟨res, rfl⟩
  rw [← hk] at hf
  unfold f_Mo_set at hf
  refine Fx.run [(.aload_n 0, 1, 0, 0, .null), (.getfield 9, 3, 9, 0, .ref 1), (.sipush 605, 3, 0, 0, .int 605), (.iconst 0, 1, 0, 0, .int 0), (.iastore, 1, 4100, 0, .null), (.iload_n 1, 1, 1, 0, .null)] 10 (by decide +kernel) ?_
  show isK sh c 9 ∧ (isA sh (c + 1) 10 4100 ∧ inb 605 4100) ∧ Fx q_Mo_set 2 sh 10 [some (.ref c), some (.int v1), some (.int v2), none] [.int v1] (upI hp (c + 1) (ix 605) 0) (some (.int res.2)) res.1
  refine ⟨hS.1, ⟨hS.2.1, (by decide)⟩, ?_⟩
  refine Fx.if_ne (12) 22 13 (by decide +kernel) (fun b1 => ?_) (fun b1 => ?_)
  · replace hf := ifn b1 hf
    refine Fx.run [(.iload_n 1, 1, 1, 0, .null), (.iconst 1, 1, 0, 0, .int 1)] 24 (by decide +kernel) ?_
    show Fx q_Mo_set 2 sh 24 [some (.ref c), some (.int v1), some (.int v2), none] [.int 1, .int v1] (upI hp (c + 1) (ix 605) 0) (some (.int res.2)) res.1
    refine Fx.icmp_ne (16) 40 27 (by decide +kernel) (fun b2 => ?_) (fun b2 => ?_)
    · replace hf := ifn b2 hf
      refine Fx.run [(.iconst 0, 1, 0, 0, .int 0)] 41 (by decide +kernel) ?_
      show Fx q_Mo_set 2 sh 41 [some (.ref c), some (.int v1), some (.int v2), none] [.int 0] (upI hp (c + 1) (ix 605) 0) (some (.int res.2)) res.1
      have hl := t_Mo_set_j41 sh c hS (upI hp (c + 1) (ix 605) 0) v1 v2 0 res _ hf hk
      exact Fx.le hl (And.intro rfl (And.intro rfl (And.intro rfl trivial)))
    · replace hf := ifp b2 hf
      refine Fx.run [(.iload_n 2, 1, 2, 0, .null), (.sipush 2044, 3, 0, 0, .int 2044), (.iand, 1, 0, 0, .null), (.iload_n 2, 1, 2, 0, .null)] 33 (by decide +kernel) ?_
      show Fx q_Mo_set 2 sh 33 [some (.ref c), some (.int v1), some (.int v2), none] [.int v2, .int (v2 &&& 2044)] (upI hp (c + 1) (ix 605) 0) (some (.int res.2)) res.1
      refine Fx.icmp_ne (7) 40 36 (by decide +kernel) (fun b12 => ?_) (fun b12 => ?_)
      · replace hf := ifn b12 hf
        refine Fx.run [(.iconst 0, 1, 0, 0, .int 0)] 41 (by decide +kernel) ?_
        show Fx q_Mo_set 2 sh 41 [some (.ref c), some (.int v1), some (.int v2), none] [.int 0] (upI hp (c + 1) (ix 605) 0) (some (.int res.2)) res.1
        have hl := t_Mo_set_j41 sh c hS (upI hp (c + 1) (ix 605) 0) v1 v2 0 res _ hf hk
        exact Fx.le hl (And.intro rfl (And.intro rfl (And.intro rfl trivial)))
      · replace hf := ifp b12 hf
        refine Fx.run [(.iconst 1, 1, 0, 0, .int 1)] 37 (by decide +kernel) ?_
        show Fx q_Mo_set 2 sh 37 [some (.ref c), some (.int v1), some (.int v2), none] [.int 1] (upI hp (c + 1) (ix 605) 0) (some (.int res.2)) res.1
        refine Fx.goto (4) 41 (by decide +kernel) ?_
        have hl := t_Mo_set_j41 sh c hS (upI hp (c + 1) (ix 605) 0) v1 v2 1 res _ hf hk
        exact Fx.le hl (And.intro rfl (And.intro rfl (And.intro rfl trivial)))
  · replace hf := ifp b1 hf
    refine Fx.run [(.iload_n 2, 1, 2, 0, .null), (.iconst 0, 1, 0, 0, .int 0), (.iconst 1, 1, 0, 0, .int 1)] 16 (by decide +kernel) ?_
    show Fx q_Mo_set 2 sh 16 [some (.ref c), some (.int v1), some (.int v2), none] [.int 1, .int 0, .int v2] (upI hp (c + 1) (ix 605) 0) (some (.int res.2)) res.1
    replace hf := bnd hf
    obtain ⟨r13, hr13, hf⟩ := hf
    refine Fx.callS (rr := (some (.int r13))) (hp1 := (upI hp (c + 1) (ix 605) 0)) [.int v2, .int 0, .int 1] [] lk_9_48 (by decide +kernel) (t_Mo_isIn sh (upI hp (c + 1) (ix 605) 0) v2 0 1 r13 hr13) ⟨Nat.le_of_ble_eq_true rfl, Nat.le_of_ble_eq_true rfl⟩ rfl (Nat.le_of_ble_eq_true rfl) ?_
    show Fx q_Mo_set 2 sh 19 [some (.ref c), some (.int v1), some (.int v2), none] [.int r13] (upI hp (c + 1) (ix 605) 0) (some (.int res.2)) res.1
    refine Fx.goto (22) 41 (by decide +kernel) ?_
    have hl := t_Mo_set_j41 sh c hS (upI hp (c + 1) (ix 605) 0) v1 v2 r13 res _ hf hk
    exact Fx.le hl (And.intro rfl (And.intro rfl (And.intro rfl trivial)))
set_option maxHeartbeats 4000000 in
set_option maxRecDepth 20000 in
theorem t_Mo_lays (sh : Shp) (c : Nat) (hS : S_Mo sh c) (hp : HP) (v1 : Int32) (v2 : Int32) (v3 : Int32) (v4 : Int32) (v5 : Int32) (v6 : Int32) (res : HP) (hf : f_Mo_lays c hp v1 v2 v3 v4 v5 v6 = some res) : Ex 1 q_Mo_lays sh [.ref c, .int v1, .int v2, .int v3, .int v4, .int v5, .int v6] hp none res := by
  refine Ex.of [some (.ref c), some (.int v1), some (.int v2), some (.int v3), some (.int v4), some (.int v5), some (.int v6)] rfl (Nat.le_of_ble_eq_true rfl) (by decide +kernel) rfl ?_
  obtain ⟨t, hk⟩ : ∃ t, t = res := ⟨res, rfl⟩
  rw [← hk] at hf
  unfold f_Mo_lays at hf
  replace hf := gd hf
  obtain ⟨g1, hf⟩ := hf
  replace hf := gd hf
  obtain ⟨g2, hf⟩ := hf
  replace hf := gd hf
  obtain ⟨g3, hf⟩ := hf
  replace hf := gd hf
  obtain ⟨g4, hf⟩ := hf
  replace hf := gd hf
  obtain ⟨g5, hf⟩ := hf
  refine Fx.run [(.aload_n 0, 1, 0, 0, .null), (.getfield 9, 3, 9, 0, .ref 1), (.iload_n 1, 1, 1, 0, .null), (.iconst 0, 1, 0, 0, .int 0), (.iadd, 1, 0, 0, .null), (.iload_n 2, 1, 2, 0, .null), (.iastore, 1, 4100, 0, .null), (.aload_n 0, 1, 0, 0, .null), (.getfield 9, 3, 9, 0, .ref 1), (.iload_n 1, 1, 1, 0, .null), (.iconst 1, 1, 0, 0, .int 1), (.iadd, 1, 0, 0, .null), (.iload_n 3, 1, 3, 0, .null), (.iastore, 1, 4100, 0, .null), (.aload_n 0, 1, 0, 0, .null), (.getfield 9, 3, 9, 0, .ref 1), (.iload_n 1, 1, 1, 0, .null), (.iconst 2, 1, 0, 0, .int 2), (.iadd, 1, 0, 0, .null), (.iload 4, 2, 4, 0, .null), (.iastore, 1, 4100, 0, .null), (.aload_n 0, 1, 0, 0, .null), (.getfield 9, 3, 9, 0, .ref 1), (.iload_n 1, 1, 1, 0, .null), (.iconst 3, 1, 0, 0, .int 3), (.iadd, 1, 0, 0, .null), (.iload 5, 2, 5, 0, .null), (.iastore, 1, 4100, 0, .null), (.aload_n 0, 1, 0, 0, .null), (.getfield 9, 3, 9, 0, .ref 1), (.iload_n 1, 1, 1, 0, .null), (.iconst 4, 1, 0, 0, .int 4), (.iadd, 1, 0, 0, .null), (.iload 6, 2, 6, 0, .null), (.iastore, 1, 4100, 0, .null)] 48 (by decide +kernel) ?_
  show isK sh c 9 ∧ (isA sh (c + 1) 10 4100 ∧ inb (v1 + 0) 4100) ∧ isK sh c 9 ∧ (isA sh (c + 1) 10 4100 ∧ inb (v1 + 1) 4100) ∧ isK sh c 9 ∧ (isA sh (c + 1) 10 4100 ∧ inb (v1 + 2) 4100) ∧ isK sh c 9 ∧ (isA sh (c + 1) 10 4100 ∧ inb (v1 + 3) 4100) ∧ isK sh c 9 ∧ (isA sh (c + 1) 10 4100 ∧ inb (v1 + 4) 4100) ∧ Fx q_Mo_lays 1 sh 48 [some (.ref c), some (.int v1), some (.int v2), some (.int v3), some (.int v4), some (.int v5), some (.int v6)] [] (upI (upI (upI (upI (upI hp (c + 1) (ix (v1 + 0)) v2) (c + 1) (ix (v1 + 1)) v3) (c + 1) (ix (v1 + 2)) v4) (c + 1) (ix (v1 + 3)) v5) (c + 1) (ix (v1 + 4)) v6) none res
  refine ⟨hS.1, ⟨hS.2.1, g1⟩, hS.1, ⟨hS.2.1, g2⟩, hS.1, ⟨hS.2.1, g3⟩, hS.1, ⟨hS.2.1, g4⟩, hS.1, ⟨hS.2.1, g5⟩, ?_⟩
  obtain rfl := Option.some.inj hf
  have hk : (upI (upI (upI (upI (upI hp (c + 1) (ix (v1 + 0)) v2) (c + 1) (ix (v1 + 1)) v3) (c + 1) (ix (v1 + 2)) v4) (c + 1) (ix (v1 + 3)) v5) (c + 1) (ix (v1 + 4)) v6) = res := hk
  subst hk
  exact Fx.vret (by decide +kernel) rfl
set_option maxHeartbeats 4000000 in
set_option maxRecDepth 20000 in
theorem t_Mo_batch (sh : Shp) (c : Nat) (hS : S_Mo sh c) (hp : HP) (v1 : Int32) (v2 : Int32) (v3 : Int32) (v4 : Int32) (v5 : Int32) (res : (HP × Int32)) (hf : f_Mo_batch c hp v1 v2 v3 v4 v5 = some res) : Ex 2 q_Mo_batch sh [.ref c, .int v1, .int v2, .int v3, .int v4, .int v5] hp (some (.int res.2)) res.1 := by
  refine Ex.of [some (.ref c), some (.int v1), some (.int v2), some (.int v3), some (.int v4), some (.int v5)] rfl (Nat.le_of_ble_eq_true rfl) (by decide +kernel) rfl ?_
  obtain ⟨t, hk⟩ : ∃ t, t = res := ⟨res, rfl⟩
  rw [← hk] at hf
  unfold f_Mo_batch at hf
  refine Fx.run [(.aload_n 0, 1, 0, 0, .null), (.getfield 9, 3, 9, 0, .ref 1), (.sipush 404, 3, 0, 0, .int 404), (.iaload, 1, 4100, 0, .null), (.bipush 40, 2, 0, 0, .int 40)] 10 (by decide +kernel) ?_
  show isK sh c 9 ∧ (isA sh (c + 1) 10 4100 ∧ inb 404 4100) ∧ Fx q_Mo_batch 2 sh 10 [some (.ref c), some (.int v1), some (.int v2), some (.int v3), some (.int v4), some (.int v5)] [.int 40, .int (hp.1 (c + 1) (ix 404))] hp (some (.int res.2)) res.1
  refine ⟨hS.1, ⟨hS.2.1, (by decide)⟩, ?_⟩
  refine Fx.icmp_ne (5) 15 13 (by decide +kernel) (fun b1 => ?_) (fun b1 => ?_)
  · replace hf := ifn b1 hf
    refine Fx.run [(.aload_n 0, 1, 0, 0, .null), (.sipush 405, 3, 0, 0, .int 405), (.iconst 5, 1, 0, 0, .int 5), (.aload_n 0, 1, 0, 0, .null), (.getfield 9, 3, 9, 0, .ref 1), (.sipush 404, 3, 0, 0, .int 404), (.iaload, 1, 4100, 0, .null), (.imul, 1, 0, 0, .null), (.iadd, 1, 0, 0, .null), (.iload_n 1, 1, 1, 0, .null), (.iload_n 2, 1, 2, 0, .null), (.iload_n 3, 1, 3, 0, .null), (.iload 4, 2, 4, 0, .null), (.iload 5, 2, 5, 0, .null)] 37 (by decide +kernel) ?_
    show isK sh c 9 ∧ (isA sh (c + 1) 10 4100 ∧ inb 404 4100) ∧ Fx q_Mo_batch 2 sh 37 [some (.ref c), some (.int v1), some (.int v2), some (.int v3), some (.int v4), some (.int v5)] [.int v5, .int v4, .int v3, .int v2, .int v1, .int (405 + (5 * (hp.1 (c + 1) (ix 404)))), .ref c] hp (some (.int res.2)) res.1
    refine ⟨hS.1, ⟨hS.2.1, (by decide)⟩, ?_⟩
    replace hf := bnd hf
    obtain ⟨h3, hr2, hf⟩ := hf
    refine Fx.callV (rr := none) (hp1 := h3) [.int (405 + (5 * (hp.1 (c + 1) (ix 404)))), .int v1, .int v2, .int v3, .int v4, .int v5] [] lk_9_88 (by decide +kernel) (t_Mo_lays sh c (hS) hp (405 + (5 * (hp.1 (c + 1) (ix 404)))) v1 v2 v3 v4 v5 h3 hr2) ⟨Nat.le_of_ble_eq_true rfl, Nat.le_of_ble_eq_true rfl⟩ (hS).1 (by decide) rfl (Nat.le_of_ble_eq_true rfl) ?_
    show Fx q_Mo_batch 2 sh 40 [some (.ref c), some (.int v1), some (.int v2), some (.int v3), some (.int v4), some (.int v5)] [] h3 (some (.int res.2)) res.1
    refine Fx.run [(.aload_n 0, 1, 0, 0, .null), (.getfield 9, 3, 9, 0, .ref 1), (.sipush 404, 3, 0, 0, .int 404), (.dup2, 1, 0, 0, .null), (.iaload, 1, 4100, 0, .null), (.iconst 1, 1, 0, 0, .int 1), (.iadd, 1, 0, 0, .null), (.iastore, 1, 4100, 0, .null), (.aload_n 0, 1, 0, 0, .null), (.getfield 9, 3, 9, 0, .ref 1), (.sipush 404, 3, 0, 0, .int 404), (.iaload, 1, 4100, 0, .null)] 60 (by decide +kernel) ?_
    show isK sh c 9 ∧ (isA sh (c + 1) 10 4100 ∧ inb 404 4100) ∧ (isA sh (c + 1) 10 4100 ∧ inb 404 4100) ∧ isK sh c 9 ∧ (isA sh (c + 1) 10 4100 ∧ inb 404 4100) ∧ Fx q_Mo_batch 2 sh 60 [some (.ref c), some (.int v1), some (.int v2), some (.int v3), some (.int v4), some (.int v5)] [.int ((upI h3 (c + 1) (ix 404) ((h3.1 (c + 1) (ix 404)) + 1)).1 (c + 1) (ix 404))] (upI h3 (c + 1) (ix 404) ((h3.1 (c + 1) (ix 404)) + 1)) (some (.int res.2)) res.1
    refine ⟨hS.1, ⟨hS.2.1, (by decide)⟩, ⟨hS.2.1, (by decide)⟩, hS.1, ⟨hS.2.1, (by decide)⟩, ?_⟩
    obtain rfl := Option.some.inj hf
    have hk : ((upI h3 (c + 1) (ix 404) ((h3.1 (c + 1) (ix 404)) + 1)), ((upI h3 (c + 1) (ix 404) ((h3.1 (c + 1) (ix 404)) + 1)).1 (c + 1) (ix 404))) = res := hk
    subst hk
    exact Fx.iret (by decide +kernel) rfl
  · replace hf := ifp b1 hf
    refine Fx.run [(.iconst (-1), 1, 0, 0, .int (-1))] 14 (by decide +kernel) ?_
    show Fx q_Mo_batch 2 sh 14 [some (.ref c), some (.int v1), some (.int v2), some (.int v3), some (.int v4), some (.int v5)] [.int (-1)] hp (some (.int res.2)) res.1
    obtain rfl := Option.some.inj hf
    have hk : (hp, (-1)) = res := hk
    subst hk
    exact Fx.iret (by decide +kernel) rfl
set_option maxHeartbeats 4000000 in
set_option maxRecDepth 20000 in
theorem t_Mo_clear (sh : Shp) (c : Nat) (hS : S_Mo sh c) (hp : HP)  (res : (HP × Int32)) (hf : f_Mo_clear c hp  = some res) : Ex 1 q_Mo_clear sh [.ref c] hp (some (.int res.2)) res.1 := by
  refine Ex.of [some (.ref c), none] rfl (Nat.le_of_ble_eq_true rfl) (by decide +kernel) rfl ?_
  obtain ⟨t, hk⟩ : ∃ t, t = res := ⟨res, rfl⟩
  rw [← hk] at hf
  unfold f_Mo_clear at hf
  refine Fx.run [(.aload_n 0, 1, 0, 0, .null), (.getfield 9, 3, 9, 0, .ref 1), (.sipush 404, 3, 0, 0, .int 404), (.iaload, 1, 4100, 0, .null), (.istore_n 1, 1, 1, 0, .null), (.aload_n 0, 1, 0, 0, .null), (.getfield 9, 3, 9, 0, .ref 1), (.sipush 404, 3, 0, 0, .int 404), (.iconst 0, 1, 0, 0, .int 0), (.iastore, 1, 4100, 0, .null), (.iload_n 1, 1, 1, 0, .null)] 19 (by decide +kernel) ?_
  show isK sh c 9 ∧ (isA sh (c + 1) 10 4100 ∧ inb 404 4100) ∧ isK sh c 9 ∧ (isA sh (c + 1) 10 4100 ∧ inb 404 4100) ∧ Fx q_Mo_clear 1 sh 19 [some (.ref c), some (.int (hp.1 (c + 1) (ix 404)))] [.int (hp.1 (c + 1) (ix 404))] (upI hp (c + 1) (ix 404) 0) (some (.int res.2)) res.1
  refine ⟨hS.1, ⟨hS.2.1, (by decide)⟩, hS.1, ⟨hS.2.1, (by decide)⟩, ?_⟩
  obtain rfl := Option.some.inj hf
  have hk : ((upI hp (c + 1) (ix 404) 0), (hp.1 (c + 1) (ix 404))) = res := hk
  subst hk
  exact Fx.iret (by decide +kernel) rfl
set_option maxHeartbeats 4000000 in
set_option maxRecDepth 20000 in
theorem t_Mo_spanTrouble (sh : Shp) (hp : HP) (v0 : Int32) (v1 : Int32) (res : Int32) (hf : f_Mo_spanTrouble v0 v1 = some res) : Ex 2 q_Mo_spanTrouble sh [.int v0, .int v1] hp (some (.int res)) hp := by
  refine Ex.of [some (.int v0), some (.int v1)] rfl (Nat.le_of_ble_eq_true rfl) (by decide +kernel) rfl ?_
  obtain ⟨t, hk⟩ : ∃ t, t = res := ⟨res, rfl⟩
  rw [← hk] at hf
  unfold f_Mo_spanTrouble at hf
  refine Fx.run [(.iload_n 0, 1, 0, 0, .null), (.ldc 92, 2, 0, 0, .int (-1000000)), (.ldc 93, 2, 0, 0, .int 1000000)] 5 (by decide +kernel) ?_
  show Fx q_Mo_spanTrouble 2 sh 5 [some (.int v0), some (.int v1)] [.int 1000000, .int (-1000000), .int v0] hp (some (.int res)) hp
  replace hf := bnd hf
  obtain ⟨r1, hr1, hf⟩ := hf
  refine Fx.callS (rr := (some (.int r1))) (hp1 := hp) [.int v0, .int (-1000000), .int 1000000] [] lk_9_48 (by decide +kernel) (t_Mo_isIn sh hp v0 (-1000000) 1000000 r1 hr1) ⟨Nat.le_of_ble_eq_true rfl, Nat.le_of_ble_eq_true rfl⟩ rfl (Nat.le_of_ble_eq_true rfl) ?_
  show Fx q_Mo_spanTrouble 2 sh 8 [some (.int v0), some (.int v1)] [.int r1] hp (some (.int res)) hp
  refine Fx.if_ne (5) 13 11 (by decide +kernel) (fun b2 => ?_) (fun b2 => ?_)
  · replace hf := ifn b2 hf
    refine Fx.run [(.iload_n 1, 1, 1, 0, .null), (.ldc 92, 2, 0, 0, .int (-1000000)), (.ldc 93, 2, 0, 0, .int 1000000)] 18 (by decide +kernel) ?_
    show Fx q_Mo_spanTrouble 2 sh 18 [some (.int v0), some (.int v1)] [.int 1000000, .int (-1000000), .int v1] hp (some (.int res)) hp
    replace hf := bnd hf
    obtain ⟨r3, hr3, hf⟩ := hf
    refine Fx.callS (rr := (some (.int r3))) (hp1 := hp) [.int v1, .int (-1000000), .int 1000000] [] lk_9_48 (by decide +kernel) (t_Mo_isIn sh hp v1 (-1000000) 1000000 r3 hr3) ⟨Nat.le_of_ble_eq_true rfl, Nat.le_of_ble_eq_true rfl⟩ rfl (Nat.le_of_ble_eq_true rfl) ?_
    show Fx q_Mo_spanTrouble 2 sh 21 [some (.int v0), some (.int v1)] [.int r3] hp (some (.int res)) hp
    refine Fx.if_ne (5) 26 24 (by decide +kernel) (fun b4 => ?_) (fun b4 => ?_)
    · replace hf := ifn b4 hf
      refine Fx.run [(.iload_n 1, 1, 1, 0, .null), (.iload_n 0, 1, 0, 0, .null)] 28 (by decide +kernel) ?_
      show Fx q_Mo_spanTrouble 2 sh 28 [some (.int v0), some (.int v1)] [.int v0, .int v1] hp (some (.int res)) hp
      refine Fx.icmp_ge (7) 35 31 (by decide +kernel) (fun b5 => ?_) (fun b5 => ?_)
      · replace hf := ifp b5 hf
        refine Fx.run [(.iconst 0, 1, 0, 0, .int 0)] 36 (by decide +kernel) ?_
        show Fx q_Mo_spanTrouble 2 sh 36 [some (.int v0), some (.int v1)] [.int 0] hp (some (.int res)) hp
        obtain rfl := Option.some.inj hf
        have hk : 0 = res := hk
        subst hk
        exact Fx.iret (by decide +kernel) rfl
      · replace hf := ifn b5 hf
        refine Fx.run [(.iconst 3, 1, 0, 0, .int 3)] 32 (by decide +kernel) ?_
        show Fx q_Mo_spanTrouble 2 sh 32 [some (.int v0), some (.int v1)] [.int 3] hp (some (.int res)) hp
        refine Fx.goto (4) 36 (by decide +kernel) ?_
        obtain rfl := Option.some.inj hf
        have hk : 3 = res := hk
        subst hk
        exact Fx.iret (by decide +kernel) rfl
    · replace hf := ifp b4 hf
      refine Fx.run [(.iconst 2, 1, 0, 0, .int 2)] 25 (by decide +kernel) ?_
      show Fx q_Mo_spanTrouble 2 sh 25 [some (.int v0), some (.int v1)] [.int 2] hp (some (.int res)) hp
      obtain rfl := Option.some.inj hf
      have hk : 2 = res := hk
      subst hk
      exact Fx.iret (by decide +kernel) rfl
  · replace hf := ifp b2 hf
    refine Fx.run [(.iconst 1, 1, 0, 0, .int 1)] 12 (by decide +kernel) ?_
    show Fx q_Mo_spanTrouble 2 sh 12 [some (.int v0), some (.int v1)] [.int 1] hp (some (.int res)) hp
    obtain rfl := Option.some.inj hf
    have hk : 1 = res := hk
    subst hk
    exact Fx.iret (by decide +kernel) rfl
abbrev P_Mo_orderTrouble_12 (sh : Shp) (c : Nat) (hp : HP) (v1 : Int32) (v2 : Int32) (v3 : Int32) (res : Int32) : (Int32) → Prop := fun s => Fx q_Mo_orderTrouble 3 sh 12 [some (.ref c), some (.int v1), some (.int v2), some (.int v3), some (.int s)] [] hp (some (.int res)) hp
set_option maxHeartbeats 4000000 in
set_option maxRecDepth 20000 in
theorem t_Mo_orderTrouble_l12 (sh : Shp) (c : Nat) (hS : S_Mo sh c) (hp : HP) (v1 : Int32) (v2 : Int32) (v3 : Int32) (res : Int32) : ∀ (s : (Int32)) (t : Int32), f_Mo_orderTrouble_l12 c hp v1 v2 v3 s = some t → (fun v => v = res) t → P_Mo_orderTrouble_12 sh c hp v1 v2 v3 res s := by
  refine loop_ind (P_Mo_orderTrouble_12 sh c hp v1 v2 v3 res) (fun v => v = res) ?_
  intro s t hf hk
  revert hf hk; revert s; intro v4 hf hk
  replace hf : f_Mo_orderTrouble_b12 c hp v1 v2 v3 v4 = some t := hf
  show Fx q_Mo_orderTrouble 3 sh 12 [some (.ref c), some (.int v1), some (.int v2), some (.int v3), some (.int v4)] [] hp (some (.int res)) hp
  unfold f_Mo_orderTrouble_b12 at hf
  refine Fx.run [(.iload 4, 2, 4, 0, .null)] 14 (by decide +kernel) ?_
  show Fx q_Mo_orderTrouble 3 sh 14 [some (.ref c), some (.int v1), some (.int v2), some (.int v3), some (.int v4)] [.int v4] hp (some (.int res)) hp
  refine Fx.if_lt (48) 62 17 (by decide +kernel) (fun b2 => ?_) (fun b2 => ?_)
  · replace hf := ifp b2 hf
    replace hf := mpd hf
    obtain ⟨t, hf, rfl⟩ := hf
    refine Fx.run [(.iconst 0, 1, 0, 0, .int 0)] 63 (by decide +kernel) ?_
    show Fx q_Mo_orderTrouble 3 sh 63 [some (.ref c), some (.int v1), some (.int v2), some (.int v3), some (.int v4)] [.int 0] hp (some (.int res)) hp
    obtain rfl := Option.some.inj hf
    have hk : 0 = res := hk
    subst hk
    exact Fx.iret (by decide +kernel) rfl
  · replace hf := ifn b2 hf
    refine Fx.run [(.aload_n 0, 1, 0, 0, .null), (.iload_n 1, 1, 1, 0, .null), (.iload 4, 2, 4, 0, .null), (.iconst 0, 1, 0, 0, .int 0)] 22 (by decide +kernel) ?_
    show Fx q_Mo_orderTrouble 3 sh 22 [some (.ref c), some (.int v1), some (.int v2), some (.int v3), some (.int v4)] [.int 0, .int v4, .int v1, .ref c] hp (some (.int res)) hp
    replace hf := bnd hf
    obtain ⟨r3, hr3, hf⟩ := hf
    refine Fx.callV (rr := (some (.int r3))) (hp1 := hp) [.int v1, .int v4, .int 0] [] lk_9_44 (by decide +kernel) (t_Mo_of sh c (hS) hp v1 v4 0 r3 hr3) ⟨Nat.le_of_ble_eq_true rfl, Nat.le_of_ble_eq_true rfl⟩ (hS).1 (by decide) rfl (Nat.le_of_ble_eq_true rfl) ?_
    show Fx q_Mo_orderTrouble 3 sh 25 [some (.ref c), some (.int v1), some (.int v2), some (.int v3), some (.int v4)] [.int r3] hp (some (.int res)) hp
    refine Fx.run [(.iload_n 2, 1, 2, 0, .null)] 26 (by decide +kernel) ?_
    show Fx q_Mo_orderTrouble 3 sh 26 [some (.ref c), some (.int v1), some (.int v2), some (.int v3), some (.int v4)] [.int v2, .int r3] hp (some (.int res)) hp
    refine Fx.icmp_ne (30) 56 29 (by decide +kernel) (fun b4 => ?_) (fun b4 => ?_)
    · replace hf := ifn b4 hf
      refine Fx.run [(.iinc 4 (-1), 3, 4, 0, .int (-1))] 59 (by decide +kernel) ?_
      show Fx q_Mo_orderTrouble 3 sh 59 [some (.ref c), some (.int v1), some (.int v2), some (.int v3), some (.int (v4 + (-1)))] [] hp (some (.int res)) hp
      refine Fx.goto (-47) 12 (by decide +kernel) ?_
      obtain rfl := Option.some.inj hf
      have hk : Fx q_Mo_orderTrouble 3 sh 12 [some (.ref c), some (.int v1), some (.int v2), some (.int v3), some (.int (v4 + (-1)))] [] hp (some (.int res)) hp := hk
      exact Fx.le hk (And.intro rfl (And.intro rfl (And.intro rfl (And.intro rfl (And.intro rfl trivial)))))
    · replace hf := ifp b4 hf
      replace hf := mpd hf
      obtain ⟨t, hf, rfl⟩ := hf
      refine Fx.run [(.aload_n 0, 1, 0, 0, .null), (.iload_n 1, 1, 1, 0, .null), (.iload 4, 2, 4, 0, .null), (.iconst 2, 1, 0, 0, .int 2)] 34 (by decide +kernel) ?_
      show Fx q_Mo_orderTrouble 3 sh 34 [some (.ref c), some (.int v1), some (.int v2), some (.int v3), some (.int v4)] [.int 2, .int v4, .int v1, .ref c] hp (some (.int res)) hp
      replace hf := bnd hf
      obtain ⟨r5, hr5, hf⟩ := hf
      refine Fx.callV (rr := (some (.int r5))) (hp1 := hp) [.int v1, .int v4, .int 2] [] lk_9_44 (by decide +kernel) (t_Mo_of sh c (hS) hp v1 v4 2 r5 hr5) ⟨Nat.le_of_ble_eq_true rfl, Nat.le_of_ble_eq_true rfl⟩ (hS).1 (by decide) rfl (Nat.le_of_ble_eq_true rfl) ?_
      show Fx q_Mo_orderTrouble 3 sh 37 [some (.ref c), some (.int v1), some (.int v2), some (.int v3), some (.int v4)] [.int r5] hp (some (.int res)) hp
      refine Fx.run [(.iload_n 3, 1, 3, 0, .null)] 38 (by decide +kernel) ?_
      show Fx q_Mo_orderTrouble 3 sh 38 [some (.ref c), some (.int v1), some (.int v2), some (.int v3), some (.int v4)] [.int v3, .int r5] hp (some (.int res)) hp
      refine Fx.icmp_le (16) 54 41 (by decide +kernel) (fun b6 => ?_) (fun b6 => ?_)
      · replace hf := ifp b6 hf
        refine Fx.run [(.iconst 0, 1, 0, 0, .int 0)] 55 (by decide +kernel) ?_
        show Fx q_Mo_orderTrouble 3 sh 55 [some (.ref c), some (.int v1), some (.int v2), some (.int v3), some (.int v4)] [.int 0] hp (some (.int res)) hp
        obtain rfl := Option.some.inj hf
        have hk : 0 = res := hk
        subst hk
        exact Fx.iret (by decide +kernel) rfl
      · replace hf := ifn b6 hf
        refine Fx.run [(.aload_n 0, 1, 0, 0, .null), (.iload_n 1, 1, 1, 0, .null), (.iload 4, 2, 4, 0, .null), (.iconst 2, 1, 0, 0, .int 2)] 46 (by decide +kernel) ?_
        show Fx q_Mo_orderTrouble 3 sh 46 [some (.ref c), some (.int v1), some (.int v2), some (.int v3), some (.int v4)] [.int 2, .int v4, .int v1, .ref c] hp (some (.int res)) hp
        replace hf := bnd hf
        obtain ⟨r7, hr7, hf⟩ := hf
        refine Fx.callV (rr := (some (.int r7))) (hp1 := hp) [.int v1, .int v4, .int 2] [] lk_9_44 (by decide +kernel) (t_Mo_of sh c (hS) hp v1 v4 2 r7 hr7) ⟨Nat.le_of_ble_eq_true rfl, Nat.le_of_ble_eq_true rfl⟩ (hS).1 (by decide) rfl (Nat.le_of_ble_eq_true rfl) ?_
        show Fx q_Mo_orderTrouble 3 sh 49 [some (.ref c), some (.int v1), some (.int v2), some (.int v3), some (.int v4)] [.int r7] hp (some (.int res)) hp
        refine Fx.run [(.iload_n 3, 1, 3, 0, .null), (.isub, 1, 0, 0, .null)] 51 (by decide +kernel) ?_
        show Fx q_Mo_orderTrouble 3 sh 51 [some (.ref c), some (.int v1), some (.int v2), some (.int v3), some (.int v4)] [.int (r7 - v3)] hp (some (.int res)) hp
        refine Fx.goto (4) 55 (by decide +kernel) ?_
        obtain rfl := Option.some.inj hf
        have hk : (r7 - v3) = res := hk
        subst hk
        exact Fx.iret (by decide +kernel) rfl
set_option maxHeartbeats 4000000 in
set_option maxRecDepth 20000 in
theorem t_Mo_orderTrouble (sh : Shp) (c : Nat) (hS : S_Mo sh c) (hp : HP) (v1 : Int32) (v2 : Int32) (v3 : Int32) (res : Int32) (hf : f_Mo_orderTrouble c hp v1 v2 v3 = some res) : Ex 3 q_Mo_orderTrouble sh [.ref c, .int v1, .int v2, .int v3] hp (some (.int res)) hp := by
  refine Ex.of [some (.ref c), some (.int v1), some (.int v2), some (.int v3), none] rfl (Nat.le_of_ble_eq_true rfl) (by decide +kernel) rfl ?_
  obtain ⟨t, hk⟩ : ∃ t, t = res := ⟨res, rfl⟩
  rw [← hk] at hf
  unfold f_Mo_orderTrouble at hf
  replace hf := gd hf
  obtain ⟨g1, hf⟩ := hf
  refine Fx.run [(.aload_n 0, 1, 0, 0, .null), (.getfield 9, 3, 9, 0, .ref 1), (.iconst 2, 1, 0, 0, .int 2), (.iload_n 1, 1, 1, 0, .null), (.iadd, 1, 0, 0, .null), (.iaload, 1, 4100, 0, .null), (.iconst 1, 1, 0, 0, .int 1), (.isub, 1, 0, 0, .null), (.istore 4, 2, 4, 0, .null)] 12 (by decide +kernel) ?_
  show isK sh c 9 ∧ (isA sh (c + 1) 10 4100 ∧ inb (2 + v1) 4100) ∧ Fx q_Mo_orderTrouble 3 sh 12 [some (.ref c), some (.int v1), some (.int v2), some (.int v3), some (.int ((hp.1 (c + 1) (ix (2 + v1))) - 1))] [] hp (some (.int res)) hp
  refine ⟨hS.1, ⟨hS.2.1, g1⟩, ?_⟩
  have hl := t_Mo_orderTrouble_l12 sh c hS hp v1 v2 v3 res ((hp.1 (c + 1) (ix (2 + v1))) - 1) _ hf hk
  have hl : Fx q_Mo_orderTrouble 3 sh 12 [some (.ref c), some (.int v1), some (.int v2), some (.int v3), some (.int ((hp.1 (c + 1) (ix (2 + v1))) - 1))] [] hp (some (.int res)) hp := hl
  exact Fx.le hl (And.intro rfl (And.intro rfl (And.intro rfl (And.intro rfl (And.intro rfl trivial)))))
set_option maxHeartbeats 4000000 in
set_option maxRecDepth 20000 in
theorem t_Mo_comes_j187 (sh : Shp) (c : Nat) (hS : S_Mo sh c) (hp : HP)  (s0 : Int32) (s1 : Int32) (s2 : Nat) (hs2 : S_Mo sh s2) (res : (HP × Int32)) (t : (HP × Int32)) (hf : f_Mo_comes_j187 c hp  s0 s1 s2 = some t) (hk : (fun v => v = res) t) : Fx q_Mo_comes 4 sh 187 [some (.ref c), none, none, none, none, none, none, none, none] [.int s0, .int s1, .ref s2] hp (some (.int res.2)) res.1 := by
  unfold f_Mo_comes_j187 at hf
  replace hf := bnd hf
  obtain ⟨h20, hr19, hf⟩ := hf
  refine Fx.callV (rr := none) (hp1 := h20) [.int s1, .int s0] [] lk_9_84 (by decide +kernel) (t_Mo_causes sh s2 (hs2) hp s1 s0 h20 hr19) ⟨Nat.le_of_ble_eq_true rfl, Nat.le_of_ble_eq_true rfl⟩ (hs2).1 (by decide) rfl (Nat.le_of_ble_eq_true rfl) ?_
  show Fx q_Mo_comes 4 sh 190 [some (.ref c), none, none, none, none, none, none, none, none] [] h20 (some (.int res.2)) res.1
  refine Fx.run [(.iconst 0, 1, 0, 0, .int 0)] 191 (by decide +kernel) ?_
  show Fx q_Mo_comes 4 sh 191 [some (.ref c), none, none, none, none, none, none, none, none] [.int 0] h20 (some (.int res.2)) res.1
  obtain rfl := Option.some.inj hf
  have hk : (h20, 0) = res := hk
  subst hk
  exact Fx.zret (by decide +kernel) rfl (Or.inl rfl)
set_option maxHeartbeats 4000000 in
set_option maxRecDepth 20000 in
theorem t_Mo_comes_j74 (sh : Shp) (c : Nat) (hS : S_Mo sh c) (hp : HP) (v1 : Int32) (v2 : Int32) (v3 : Int32) (v4 : Int32) (v5 : Int32) (v6 : Int32) (v7 : Int32) (s0 : Int32) (res : (HP × Int32)) (t : (HP × Int32)) (hf : f_Mo_comes_j74 c hp v1 v2 v3 v4 v5 v6 v7 s0 = some t) (hk : (fun v => v = res) t) : Fx q_Mo_comes 4 sh 74 [some (.ref c), some (.int v1), some (.int v2), some (.int v3), some (.int v4), some (.int v5), some (.int v6), some (.int v7), none] [.int s0] hp (some (.int res.2)) res.1 := by
  unfold f_Mo_comes_j74 at hf
  refine Fx.run [(.istore 8, 2, 8, 0, .null), (.iload 8, 2, 8, 0, .null)] 78 (by decide +kernel) ?_
  show Fx q_Mo_comes 4 sh 78 [some (.ref c), some (.int v1), some (.int v2), some (.int v3), some (.int v4), some (.int v5), some (.int v6), some (.int v7), some (.int s0)] [.int s0] hp (some (.int res.2)) res.1
  refine Fx.if_ne (43) 121 81 (by decide +kernel) (fun b11 => ?_) (fun b11 => ?_)
  · replace hf := ifn b11 hf
    refine Fx.run [(.aload_n 0, 1, 0, 0, .null), (.iconst 2, 1, 0, 0, .int 2), (.iload_n 2, 1, 2, 0, .null)] 124 (by decide +kernel) ?_
    show Fx q_Mo_comes 4 sh 124 [some (.ref c), some (.int v1), some (.int v2), some (.int v3), some (.int v4), some (.int v5), some (.int v6), some (.int v7), some (.int s0)] [.int v2, .int 2, .ref c] hp (some (.int res.2)) res.1
    replace hf := bnd hf
    obtain ⟨h13, hr12, hf⟩ := hf
    refine Fx.callV (rr := none) (hp1 := h13) [.int 2, .int v2] [] lk_9_84 (by decide +kernel) (t_Mo_causes sh c (hS) hp 2 v2 h13 hr12) ⟨Nat.le_of_ble_eq_true rfl, Nat.le_of_ble_eq_true rfl⟩ (hS).1 (by decide) rfl (Nat.le_of_ble_eq_true rfl) ?_
    show Fx q_Mo_comes 4 sh 127 [some (.ref c), some (.int v1), some (.int v2), some (.int v3), some (.int v4), some (.int v5), some (.int v6), some (.int v7), some (.int s0)] [] h13 (some (.int res.2)) res.1
    refine Fx.run [(.aload_n 0, 1, 0, 0, .null), (.iload 8, 2, 8, 0, .null), (.iload 8, 2, 8, 0, .null), (.bipush 7, 2, 0, 0, .int 7)] 134 (by decide +kernel) ?_
    show Fx q_Mo_comes 4 sh 134 [some (.ref c), some (.int v1), some (.int v2), some (.int v3), some (.int v4), some (.int v5), some (.int v6), some (.int v7), some (.int s0)] [.int 7, .int s0, .int s0, .ref c] h13 (some (.int res.2)) res.1
    refine Fx.icmp_ne (8) 142 137 (by decide +kernel) (fun b14 => ?_) (fun b14 => ?_)
    · replace hf := ifn b14 hf
      refine Fx.run [(.iload 8, 2, 8, 0, .null), (.iconst 3, 1, 0, 0, .int 3)] 145 (by decide +kernel) ?_
      show Fx q_Mo_comes 4 sh 145 [some (.ref c), some (.int v1), some (.int v2), some (.int v3), some (.int v4), some (.int v5), some (.int v6), some (.int v7), some (.int s0)] [.int 3, .int s0, .int s0, .ref c] h13 (some (.int res.2)) res.1
      refine Fx.icmp_ne (7) 152 148 (by decide +kernel) (fun b15 => ?_) (fun b15 => ?_)
      · replace hf := ifn b15 hf
        refine Fx.run [(.iload 8, 2, 8, 0, .null), (.iconst 4, 1, 0, 0, .int 4)] 155 (by decide +kernel) ?_
        show Fx q_Mo_comes 4 sh 155 [some (.ref c), some (.int v1), some (.int v2), some (.int v3), some (.int v4), some (.int v5), some (.int v6), some (.int v7), some (.int s0)] [.int 4, .int s0, .int s0, .ref c] h13 (some (.int res.2)) res.1
        refine Fx.icmp_ne (8) 163 158 (by decide +kernel) (fun b16 => ?_) (fun b16 => ?_)
        · replace hf := ifn b16 hf
          refine Fx.run [(.iload 8, 2, 8, 0, .null), (.iconst 5, 1, 0, 0, .int 5)] 166 (by decide +kernel) ?_
          show Fx q_Mo_comes 4 sh 166 [some (.ref c), some (.int v1), some (.int v2), some (.int v3), some (.int v4), some (.int v5), some (.int v6), some (.int v7), some (.int s0)] [.int 5, .int s0, .int s0, .ref c] h13 (some (.int res.2)) res.1
          refine Fx.icmp_ne (13) 179 169 (by decide +kernel) (fun b17 => ?_) (fun b17 => ?_)
          · replace hf := ifn b17 hf
            refine Fx.run [(.aload_n 0, 1, 0, 0, .null), (.iload_n 1, 1, 1, 0, .null), (.iload_n 3, 1, 3, 0, .null), (.iload 5, 2, 5, 0, .null)] 184 (by decide +kernel) ?_
            show Fx q_Mo_comes 4 sh 184 [some (.ref c), some (.int v1), some (.int v2), some (.int v3), some (.int v4), some (.int v5), some (.int v6), some (.int v7), some (.int s0)] [.int v5, .int v3, .int v1, .ref c, .int s0, .ref c] h13 (some (.int res.2)) res.1
            replace hf := bnd hf
            obtain ⟨r18, hr18, hf⟩ := hf
            refine Fx.callV (rr := (some (.int r18))) (hp1 := h13) [.int v1, .int v3, .int v5] [.int s0, .ref c] lk_9_100 (by decide +kernel) (t_Mo_orderTrouble sh c (hS) h13 v1 v3 v5 r18 hr18) ⟨Nat.le_of_ble_eq_true rfl, Nat.le_of_ble_eq_true rfl⟩ (hS).1 (by decide) rfl (Nat.le_of_ble_eq_true rfl) ?_
            show Fx q_Mo_comes 4 sh 187 [some (.ref c), some (.int v1), some (.int v2), some (.int v3), some (.int v4), some (.int v5), some (.int v6), some (.int v7), some (.int s0)] [.int r18, .int s0, .ref c] h13 (some (.int res.2)) res.1
            have hl := t_Mo_comes_j187 sh c hS h13  r18 s0 c (hS) res _ hf hk
            exact Fx.le hl (And.intro rfl trivial)
          · replace hf := ifp b17 hf
            refine Fx.run [(.iload 5, 2, 5, 0, .null), (.iload 6, 2, 6, 0, .null)] 173 (by decide +kernel) ?_
            show Fx q_Mo_comes 4 sh 173 [some (.ref c), some (.int v1), some (.int v2), some (.int v3), some (.int v4), some (.int v5), some (.int v6), some (.int v7), some (.int s0)] [.int v6, .int v5, .int s0, .ref c] h13 (some (.int res.2)) res.1
            replace hf := bnd hf
            obtain ⟨r21, hr21, hf⟩ := hf
            refine Fx.callS (rr := (some (.int r21))) (hp1 := h13) [.int v5, .int v6] [.int s0, .ref c] lk_9_97 (by decide +kernel) (t_Mo_spanTrouble sh h13 v5 v6 r21 hr21) ⟨Nat.le_of_ble_eq_true rfl, Nat.le_of_ble_eq_true rfl⟩ rfl (Nat.le_of_ble_eq_true rfl) ?_
            show Fx q_Mo_comes 4 sh 176 [some (.ref c), some (.int v1), some (.int v2), some (.int v3), some (.int v4), some (.int v5), some (.int v6), some (.int v7), some (.int s0)] [.int r21, .int s0, .ref c] h13 (some (.int res.2)) res.1
            refine Fx.goto (11) 187 (by decide +kernel) ?_
            have hl := t_Mo_comes_j187 sh c hS h13  r21 s0 c (hS) res _ hf hk
            exact Fx.le hl (And.intro rfl trivial)
        · replace hf := ifp b16 hf
          refine Fx.run [(.iload 4, 2, 4, 0, .null)] 160 (by decide +kernel) ?_
          show Fx q_Mo_comes 4 sh 160 [some (.ref c), some (.int v1), some (.int v2), some (.int v3), some (.int v4), some (.int v5), some (.int v6), some (.int v7), some (.int s0)] [.int v4, .int s0, .ref c] h13 (some (.int res.2)) res.1
          refine Fx.goto (27) 187 (by decide +kernel) ?_
          have hl := t_Mo_comes_j187 sh c hS h13  v4 s0 c (hS) res _ hf hk
          exact Fx.le hl (And.intro rfl trivial)
      · replace hf := ifp b15 hf
        refine Fx.run [(.iload_n 3, 1, 3, 0, .null)] 149 (by decide +kernel) ?_
        show Fx q_Mo_comes 4 sh 149 [some (.ref c), some (.int v1), some (.int v2), some (.int v3), some (.int v4), some (.int v5), some (.int v6), some (.int v7), some (.int s0)] [.int v3, .int s0, .ref c] h13 (some (.int res.2)) res.1
        refine Fx.goto (38) 187 (by decide +kernel) ?_
        have hl := t_Mo_comes_j187 sh c hS h13  v3 s0 c (hS) res _ hf hk
        exact Fx.le hl (And.intro rfl trivial)
    · replace hf := ifp b14 hf
      refine Fx.run [(.bipush 40, 2, 0, 0, .int 40)] 139 (by decide +kernel) ?_
      show Fx q_Mo_comes 4 sh 139 [some (.ref c), some (.int v1), some (.int v2), some (.int v3), some (.int v4), some (.int v5), some (.int v6), some (.int v7), some (.int s0)] [.int 40, .int s0, .ref c] h13 (some (.int res.2)) res.1
      refine Fx.goto (48) 187 (by decide +kernel) ?_
      have hl := t_Mo_comes_j187 sh c hS h13  40 s0 c (hS) res _ hf hk
      exact Fx.le hl (And.intro rfl trivial)
  · replace hf := ifp b11 hf
    replace hf := gd hf
    obtain ⟨g22, hf⟩ := hf
    refine Fx.run [(.aload_n 0, 1, 0, 0, .null), (.aload_n 0, 1, 0, 0, .null), (.iload_n 1, 1, 1, 0, .null), (.aload_n 0, 1, 0, 0, .null), (.getfield 9, 3, 9, 0, .ref 1), (.iconst 2, 1, 0, 0, .int 2), (.iload_n 1, 1, 1, 0, .null), (.iadd, 1, 0, 0, .null), (.iaload, 1, 4100, 0, .null)] 92 (by decide +kernel) ?_
    show isK sh c 9 ∧ (isA sh (c + 1) 10 4100 ∧ inb (2 + v1) 4100) ∧ Fx q_Mo_comes 4 sh 92 [some (.ref c), some (.int v1), some (.int v2), some (.int v3), some (.int v4), some (.int v5), some (.int v6), some (.int v7), some (.int s0)] [.int (hp.1 (c + 1) (ix (2 + v1))), .int v1, .ref c, .ref c] hp (some (.int res.2)) res.1
    refine ⟨hS.1, ⟨hS.2.1, g22⟩, ?_⟩
    replace hf := bnd hf
    obtain ⟨r23, hr23, hf⟩ := hf
    refine Fx.callV (rr := (some (.int r23))) (hp1 := hp) [.int v1, .int (hp.1 (c + 1) (ix (2 + v1)))] [.ref c] lk_9_40 (by decide +kernel) (t_Mo_at sh c (hS) hp v1 (hp.1 (c + 1) (ix (2 + v1))) r23 hr23) ⟨Nat.le_of_ble_eq_true rfl, Nat.le_of_ble_eq_true rfl⟩ (hS).1 (by decide) rfl (Nat.le_of_ble_eq_true rfl) ?_
    show Fx q_Mo_comes 4 sh 95 [some (.ref c), some (.int v1), some (.int v2), some (.int v3), some (.int v4), some (.int v5), some (.int v6), some (.int v7), some (.int s0)] [.int r23, .ref c] hp (some (.int res.2)) res.1
    refine Fx.run [(.iload_n 3, 1, 3, 0, .null), (.iload 4, 2, 4, 0, .null), (.iload 5, 2, 5, 0, .null), (.iload 6, 2, 6, 0, .null), (.iload 7, 2, 7, 0, .null)] 104 (by decide +kernel) ?_
    show Fx q_Mo_comes 4 sh 104 [some (.ref c), some (.int v1), some (.int v2), some (.int v3), some (.int v4), some (.int v5), some (.int v6), some (.int v7), some (.int s0)] [.int v7, .int v6, .int v5, .int v4, .int v3, .int r23, .ref c] hp (some (.int res.2)) res.1
    replace hf := bnd hf
    obtain ⟨h25, hr24, hf⟩ := hf
    refine Fx.callV (rr := none) (hp1 := h25) [.int r23, .int v3, .int v4, .int v5, .int v6, .int v7] [] lk_9_88 (by decide +kernel) (t_Mo_lays sh c (hS) hp r23 v3 v4 v5 v6 v7 h25 hr24) ⟨Nat.le_of_ble_eq_true rfl, Nat.le_of_ble_eq_true rfl⟩ (hS).1 (by decide) rfl (Nat.le_of_ble_eq_true rfl) ?_
    show Fx q_Mo_comes 4 sh 107 [some (.ref c), some (.int v1), some (.int v2), some (.int v3), some (.int v4), some (.int v5), some (.int v6), some (.int v7), some (.int s0)] [] h25 (some (.int res.2)) res.1
    replace hf := gd hf
    obtain ⟨g26, hf⟩ := hf
    replace hf := gd hf
    obtain ⟨g27, hf⟩ := hf
    refine Fx.run [(.aload_n 0, 1, 0, 0, .null), (.getfield 9, 3, 9, 0, .ref 1), (.iconst 2, 1, 0, 0, .int 2), (.iload_n 1, 1, 1, 0, .null), (.iadd, 1, 0, 0, .null), (.dup2, 1, 0, 0, .null), (.iaload, 1, 4100, 0, .null), (.iconst 1, 1, 0, 0, .int 1), (.iadd, 1, 0, 0, .null), (.iastore, 1, 4100, 0, .null), (.iconst 1, 1, 0, 0, .int 1)] 120 (by decide +kernel) ?_
    show isK sh c 9 ∧ (isA sh (c + 1) 10 4100 ∧ inb (2 + v1) 4100) ∧ (isA sh (c + 1) 10 4100 ∧ inb (2 + v1) 4100) ∧ Fx q_Mo_comes 4 sh 120 [some (.ref c), some (.int v1), some (.int v2), some (.int v3), some (.int v4), some (.int v5), some (.int v6), some (.int v7), some (.int s0)] [.int 1] (upI h25 (c + 1) (ix (2 + v1)) ((h25.1 (c + 1) (ix (2 + v1))) + 1)) (some (.int res.2)) res.1
    refine ⟨hS.1, ⟨hS.2.1, g26⟩, ⟨hS.2.1, g27⟩, ?_⟩
    obtain rfl := Option.some.inj hf
    have hk : ((upI h25 (c + 1) (ix (2 + v1)) ((h25.1 (c + 1) (ix (2 + v1))) + 1)), 1) = res := hk
    subst hk
    exact Fx.zret (by decide +kernel) rfl (Or.inr rfl)
set_option maxHeartbeats 4000000 in
set_option maxRecDepth 20000 in
theorem t_Mo_comes (sh : Shp) (c : Nat) (hS : S_Mo sh c) (hp : HP) (v1 : Int32) (v2 : Int32) (v3 : Int32) (v4 : Int32) (v5 : Int32) (v6 : Int32) (v7 : Int32) (res : (HP × Int32)) (hf : f_Mo_comes c hp v1 v2 v3 v4 v5 v6 v7 = some res) : Ex 4 q_Mo_comes sh [.ref c, .int v1, .int v2, .int v3, .int v4, .int v5, .int v6, .int v7] hp (some (.int res.2)) res.1 := by
  refine Ex.of [some (.ref c), some (.int v1), some (.int v2), some (.int v3), some (.int v4), some (.int v5), some (.int v6), some (.int v7), none] rfl (Nat.le_of_ble_eq_true rfl) (by decide +kernel) rfl ?_
  obtain ⟨t, hk⟩ : ∃ t, t = res := ⟨res, rfl⟩
  rw [← hk] at hf
  unfold f_Mo_comes at hf
  replace hf := gd hf
  obtain ⟨g1, hf⟩ := hf
  refine Fx.run [(.aload_n 0, 1, 0, 0, .null), (.getfield 9, 3, 9, 0, .ref 1), (.iconst 2, 1, 0, 0, .int 2), (.iload_n 1, 1, 1, 0, .null), (.iadd, 1, 0, 0, .null), (.iaload, 1, 4100, 0, .null), (.bipush 40, 2, 0, 0, .int 40)] 10 (by decide +kernel) ?_
  show isK sh c 9 ∧ (isA sh (c + 1) 10 4100 ∧ inb (2 + v1) 4100) ∧ Fx q_Mo_comes 4 sh 10 [some (.ref c), some (.int v1), some (.int v2), some (.int v3), some (.int v4), some (.int v5), some (.int v6), some (.int v7), none] [.int 40, .int (hp.1 (c + 1) (ix (2 + v1)))] hp (some (.int res.2)) res.1
  refine ⟨hS.1, ⟨hS.2.1, g1⟩, ?_⟩
  refine Fx.icmp_ne (8) 18 13 (by decide +kernel) (fun b2 => ?_) (fun b2 => ?_)
  · replace hf := ifn b2 hf
    refine Fx.run [(.iload_n 3, 1, 3, 0, .null), (.iconst 0, 1, 0, 0, .int 0), (.iconst 3, 1, 0, 0, .int 3)] 21 (by decide +kernel) ?_
    show Fx q_Mo_comes 4 sh 21 [some (.ref c), some (.int v1), some (.int v2), some (.int v3), some (.int v4), some (.int v5), some (.int v6), some (.int v7), none] [.int 3, .int 0, .int v3] hp (some (.int res.2)) res.1
    replace hf := bnd hf
    obtain ⟨r3, hr3, hf⟩ := hf
    refine Fx.callS (rr := (some (.int r3))) (hp1 := hp) [.int v3, .int 0, .int 3] [] lk_9_48 (by decide +kernel) (t_Mo_isIn sh hp v3 0 3 r3 hr3) ⟨Nat.le_of_ble_eq_true rfl, Nat.le_of_ble_eq_true rfl⟩ rfl (Nat.le_of_ble_eq_true rfl) ?_
    show Fx q_Mo_comes 4 sh 24 [some (.ref c), some (.int v1), some (.int v2), some (.int v3), some (.int v4), some (.int v5), some (.int v6), some (.int v7), none] [.int r3] hp (some (.int res.2)) res.1
    refine Fx.if_ne (7) 31 27 (by decide +kernel) (fun b4 => ?_) (fun b4 => ?_)
    · replace hf := ifn b4 hf
      refine Fx.run [(.iload 4, 2, 4, 0, .null)] 33 (by decide +kernel) ?_
      show Fx q_Mo_comes 4 sh 33 [some (.ref c), some (.int v1), some (.int v2), some (.int v3), some (.int v4), some (.int v5), some (.int v6), some (.int v7), none] [.int v4] hp (some (.int res.2)) res.1
      replace hf := bnd hf
      obtain ⟨r5, hr5, hf⟩ := hf
      refine Fx.callS (rr := (some (.int r5))) (hp1 := hp) [.int v4] [] lk_9_94 (by decide +kernel) (t_Mo_isKey sh hp v4 r5 hr5) ⟨Nat.le_of_ble_eq_true rfl, Nat.le_of_ble_eq_true rfl⟩ rfl (Nat.le_of_ble_eq_true rfl) ?_
      show Fx q_Mo_comes 4 sh 36 [some (.ref c), some (.int v1), some (.int v2), some (.int v3), some (.int v4), some (.int v5), some (.int v6), some (.int v7), none] [.int r5] hp (some (.int res.2)) res.1
      refine Fx.if_ne (7) 43 39 (by decide +kernel) (fun b6 => ?_) (fun b6 => ?_)
      · replace hf := ifn b6 hf
        refine Fx.run [(.iload 5, 2, 5, 0, .null), (.iload 6, 2, 6, 0, .null)] 47 (by decide +kernel) ?_
        show Fx q_Mo_comes 4 sh 47 [some (.ref c), some (.int v1), some (.int v2), some (.int v3), some (.int v4), some (.int v5), some (.int v6), some (.int v7), none] [.int v6, .int v5] hp (some (.int res.2)) res.1
        replace hf := bnd hf
        obtain ⟨r7, hr7, hf⟩ := hf
        refine Fx.callS (rr := (some (.int r7))) (hp1 := hp) [.int v5, .int v6] [] lk_9_97 (by decide +kernel) (t_Mo_spanTrouble sh hp v5 v6 r7 hr7) ⟨Nat.le_of_ble_eq_true rfl, Nat.le_of_ble_eq_true rfl⟩ rfl (Nat.le_of_ble_eq_true rfl) ?_
        show Fx q_Mo_comes 4 sh 50 [some (.ref c), some (.int v1), some (.int v2), some (.int v3), some (.int v4), some (.int v5), some (.int v6), some (.int v7), none] [.int r7] hp (some (.int res.2)) res.1
        refine Fx.if_le (7) 57 53 (by decide +kernel) (fun b8 => ?_) (fun b8 => ?_)
        · replace hf := ifp b8 hf
          refine Fx.run [(.aload_n 0, 1, 0, 0, .null), (.iload_n 1, 1, 1, 0, .null), (.iload_n 3, 1, 3, 0, .null), (.iload 5, 2, 5, 0, .null)] 62 (by decide +kernel) ?_
          show Fx q_Mo_comes 4 sh 62 [some (.ref c), some (.int v1), some (.int v2), some (.int v3), some (.int v4), some (.int v5), some (.int v6), some (.int v7), none] [.int v5, .int v3, .int v1, .ref c] hp (some (.int res.2)) res.1
          replace hf := bnd hf
          obtain ⟨r9, hr9, hf⟩ := hf
          refine Fx.callV (rr := (some (.int r9))) (hp1 := hp) [.int v1, .int v3, .int v5] [] lk_9_100 (by decide +kernel) (t_Mo_orderTrouble sh c (hS) hp v1 v3 v5 r9 hr9) ⟨Nat.le_of_ble_eq_true rfl, Nat.le_of_ble_eq_true rfl⟩ (hS).1 (by decide) rfl (Nat.le_of_ble_eq_true rfl) ?_
          show Fx q_Mo_comes 4 sh 65 [some (.ref c), some (.int v1), some (.int v2), some (.int v3), some (.int v4), some (.int v5), some (.int v6), some (.int v7), none] [.int r9] hp (some (.int res.2)) res.1
          refine Fx.if_le (8) 73 68 (by decide +kernel) (fun b10 => ?_) (fun b10 => ?_)
          · replace hf := ifp b10 hf
            refine Fx.run [(.iconst 0, 1, 0, 0, .int 0)] 74 (by decide +kernel) ?_
            show Fx q_Mo_comes 4 sh 74 [some (.ref c), some (.int v1), some (.int v2), some (.int v3), some (.int v4), some (.int v5), some (.int v6), some (.int v7), none] [.int 0] hp (some (.int res.2)) res.1
            have hl := t_Mo_comes_j74 sh c hS hp v1 v2 v3 v4 v5 v6 v7 0 res _ hf hk
            exact Fx.le hl (And.intro rfl (And.intro rfl (And.intro rfl (And.intro rfl (And.intro rfl (And.intro rfl (And.intro rfl (And.intro rfl trivial))))))))
          · replace hf := ifn b10 hf
            refine Fx.run [(.bipush 6, 2, 0, 0, .int 6)] 70 (by decide +kernel) ?_
            show Fx q_Mo_comes 4 sh 70 [some (.ref c), some (.int v1), some (.int v2), some (.int v3), some (.int v4), some (.int v5), some (.int v6), some (.int v7), none] [.int 6] hp (some (.int res.2)) res.1
            refine Fx.goto (4) 74 (by decide +kernel) ?_
            have hl := t_Mo_comes_j74 sh c hS hp v1 v2 v3 v4 v5 v6 v7 6 res _ hf hk
            exact Fx.le hl (And.intro rfl (And.intro rfl (And.intro rfl (And.intro rfl (And.intro rfl (And.intro rfl (And.intro rfl (And.intro rfl trivial))))))))
        · replace hf := ifn b8 hf
          refine Fx.run [(.iconst 5, 1, 0, 0, .int 5)] 54 (by decide +kernel) ?_
          show Fx q_Mo_comes 4 sh 54 [some (.ref c), some (.int v1), some (.int v2), some (.int v3), some (.int v4), some (.int v5), some (.int v6), some (.int v7), none] [.int 5] hp (some (.int res.2)) res.1
          refine Fx.goto (20) 74 (by decide +kernel) ?_
          have hl := t_Mo_comes_j74 sh c hS hp v1 v2 v3 v4 v5 v6 v7 5 res _ hf hk
          exact Fx.le hl (And.intro rfl (And.intro rfl (And.intro rfl (And.intro rfl (And.intro rfl (And.intro rfl (And.intro rfl (And.intro rfl trivial))))))))
      · replace hf := ifp b6 hf
        refine Fx.run [(.iconst 4, 1, 0, 0, .int 4)] 40 (by decide +kernel) ?_
        show Fx q_Mo_comes 4 sh 40 [some (.ref c), some (.int v1), some (.int v2), some (.int v3), some (.int v4), some (.int v5), some (.int v6), some (.int v7), none] [.int 4] hp (some (.int res.2)) res.1
        refine Fx.goto (34) 74 (by decide +kernel) ?_
        have hl := t_Mo_comes_j74 sh c hS hp v1 v2 v3 v4 v5 v6 v7 4 res _ hf hk
        exact Fx.le hl (And.intro rfl (And.intro rfl (And.intro rfl (And.intro rfl (And.intro rfl (And.intro rfl (And.intro rfl (And.intro rfl trivial))))))))
    · replace hf := ifp b4 hf
      refine Fx.run [(.iconst 3, 1, 0, 0, .int 3)] 28 (by decide +kernel) ?_
      show Fx q_Mo_comes 4 sh 28 [some (.ref c), some (.int v1), some (.int v2), some (.int v3), some (.int v4), some (.int v5), some (.int v6), some (.int v7), none] [.int 3] hp (some (.int res.2)) res.1
      refine Fx.goto (46) 74 (by decide +kernel) ?_
      have hl := t_Mo_comes_j74 sh c hS hp v1 v2 v3 v4 v5 v6 v7 3 res _ hf hk
      exact Fx.le hl (And.intro rfl (And.intro rfl (And.intro rfl (And.intro rfl (And.intro rfl (And.intro rfl (And.intro rfl (And.intro rfl trivial))))))))
  · replace hf := ifp b2 hf
    refine Fx.run [(.bipush 7, 2, 0, 0, .int 7)] 15 (by decide +kernel) ?_
    show Fx q_Mo_comes 4 sh 15 [some (.ref c), some (.int v1), some (.int v2), some (.int v3), some (.int v4), some (.int v5), some (.int v6), some (.int v7), none] [.int 7] hp (some (.int res.2)) res.1
    refine Fx.goto (59) 74 (by decide +kernel) ?_
    have hl := t_Mo_comes_j74 sh c hS hp v1 v2 v3 v4 v5 v6 v7 7 res _ hf hk
    exact Fx.le hl (And.intro rfl (And.intro rfl (And.intro rfl (And.intro rfl (And.intro rfl (And.intro rfl (And.intro rfl (And.intro rfl trivial))))))))
abbrev P_Mo_load_79 (sh : Shp) (c : Nat) (v1 : Int32) (v2 : Int32) (res : (HP × Int32)) : (HP × Int32) → Prop := fun s => Fx q_Mo_load 5 sh 79 [some (.ref c), some (.int v1), some (.int v2), some (.int s.2), none] [] s.1 (some (.int res.2)) res.1
set_option maxHeartbeats 4000000 in
set_option maxRecDepth 20000 in
theorem t_Mo_load_l79 (sh : Shp) (c : Nat) (hS : S_Mo sh c) (hp : HP) (v1 : Int32) (v2 : Int32) (res : (HP × Int32)) : ∀ (s : (HP × Int32)) (t : (HP × Int32)), f_Mo_load_l79 c hp v1 v2 s = some t → (fun v => v = res) t → P_Mo_load_79 sh c v1 v2 res s := by
  refine loop_ind (P_Mo_load_79 sh c v1 v2 res) (fun v => v = res) ?_
  intro s t hf hk
  obtain ⟨hp, v3⟩ := s
  replace hf : f_Mo_load_b79 c hp v1 v2 v3 = some t := hf
  show Fx q_Mo_load 5 sh 79 [some (.ref c), some (.int v1), some (.int v2), some (.int v3), none] [] hp (some (.int res.2)) res.1
  unfold f_Mo_load_b79 at hf
  refine Fx.run [(.iload_n 3, 1, 3, 0, .null), (.aload_n 0, 1, 0, 0, .null), (.getfield 9, 3, 9, 0, .ref 1), (.sipush 404, 3, 0, 0, .int 404), (.iaload, 1, 4100, 0, .null)] 88 (by decide +kernel) ?_
  show isK sh c 9 ∧ (isA sh (c + 1) 10 4100 ∧ inb 404 4100) ∧ Fx q_Mo_load 5 sh 88 [some (.ref c), some (.int v1), some (.int v2), some (.int v3), none] [.int (hp.1 (c + 1) (ix 404)), .int v3] hp (some (.int res.2)) res.1
  refine ⟨hS.1, ⟨hS.2.1, (by decide)⟩, ?_⟩
  refine Fx.icmp_ge (86) 174 91 (by decide +kernel) (fun b8 => ?_) (fun b8 => ?_)
  · replace hf := ifp b8 hf
    replace hf := mpd hf
    obtain ⟨t, hf, rfl⟩ := hf
    refine Fx.run [(.aload_n 0, 1, 0, 0, .null), (.getfield 9, 3, 9, 0, .ref 1), (.sipush 605, 3, 0, 0, .int 605), (.iconst 0, 1, 0, 0, .int 0), (.iastore, 1, 4100, 0, .null), (.aload_n 0, 1, 0, 0, .null)] 184 (by decide +kernel) ?_
    show isK sh c 9 ∧ (isA sh (c + 1) 10 4100 ∧ inb 605 4100) ∧ Fx q_Mo_load 5 sh 184 [some (.ref c), some (.int v1), some (.int v2), some (.int v3), none] [.ref c] (upI hp (c + 1) (ix 605) 0) (some (.int res.2)) res.1
    refine ⟨hS.1, ⟨hS.2.1, (by decide)⟩, ?_⟩
    replace hf := bnd hf
    obtain ⟨⟨h10, r9⟩, hr9, hf⟩ := hf
    dsimp only at hf
    refine Fx.callV (rr := (some (.int r9))) (hp1 := h10) [] [] lk_9_107 (by decide +kernel) (t_Mo_clear sh c (hS) (upI hp (c + 1) (ix 605) 0) (h10, r9) hr9) ⟨Nat.le_of_ble_eq_true rfl, Nat.le_of_ble_eq_true rfl⟩ (hS).1 (by decide) rfl (Nat.le_of_ble_eq_true rfl) ?_
    show Fx q_Mo_load 5 sh 187 [some (.ref c), some (.int v1), some (.int v2), some (.int v3), none] [.int r9] h10 (some (.int res.2)) res.1
    obtain rfl := Option.some.inj hf
    have hk : (h10, r9) = res := hk
    subst hk
    exact Fx.iret (by decide +kernel) rfl
  · replace hf := ifn b8 hf
    replace hf := gd hf
    obtain ⟨g11, hf⟩ := hf
    replace hf := gd hf
    obtain ⟨g12, hf⟩ := hf
    replace hf := gd hf
    obtain ⟨g13, hf⟩ := hf
    replace hf := gd hf
    obtain ⟨g14, hf⟩ := hf
    replace hf := gd hf
    obtain ⟨g15, hf⟩ := hf
    refine Fx.run [(.sipush 405, 3, 0, 0, .int 405), (.iconst 5, 1, 0, 0, .int 5), (.iload_n 3, 1, 3, 0, .null), (.imul, 1, 0, 0, .null), (.iadd, 1, 0, 0, .null), (.istore 4, 2, 4, 0, .null), (.aload_n 0, 1, 0, 0, .null), (.iload_n 1, 1, 1, 0, .null), (.iload_n 3, 1, 3, 0, .null), (.aload_n 0, 1, 0, 0, .null), (.getfield 9, 3, 9, 0, .ref 1), (.iload 4, 2, 4, 0, .null), (.iconst 0, 1, 0, 0, .int 0), (.iadd, 1, 0, 0, .null), (.iaload, 1, 4100, 0, .null), (.aload_n 0, 1, 0, 0, .null), (.getfield 9, 3, 9, 0, .ref 1), (.iload 4, 2, 4, 0, .null), (.iconst 1, 1, 0, 0, .int 1), (.iadd, 1, 0, 0, .null), (.iaload, 1, 4100, 0, .null), (.aload_n 0, 1, 0, 0, .null), (.getfield 9, 3, 9, 0, .ref 1), (.iload 4, 2, 4, 0, .null), (.iconst 2, 1, 0, 0, .int 2), (.iadd, 1, 0, 0, .null), (.iaload, 1, 4100, 0, .null), (.aload_n 0, 1, 0, 0, .null), (.getfield 9, 3, 9, 0, .ref 1), (.iload 4, 2, 4, 0, .null), (.iconst 3, 1, 0, 0, .int 3), (.iadd, 1, 0, 0, .null), (.iaload, 1, 4100, 0, .null), (.aload_n 0, 1, 0, 0, .null), (.getfield 9, 3, 9, 0, .ref 1), (.iload 4, 2, 4, 0, .null), (.iconst 4, 1, 0, 0, .int 4), (.iadd, 1, 0, 0, .null), (.iaload, 1, 4100, 0, .null)] 148 (by decide +kernel) ?_
    show isK sh c 9 ∧ (isA sh (c + 1) 10 4100 ∧ inb ((405 + (5 * v3)) + 0) 4100) ∧ isK sh c 9 ∧ (isA sh (c + 1) 10 4100 ∧ inb ((405 + (5 * v3)) + 1) 4100) ∧ isK sh c 9 ∧ (isA sh (c + 1) 10 4100 ∧ inb ((405 + (5 * v3)) + 2) 4100) ∧ isK sh c 9 ∧ (isA sh (c + 1) 10 4100 ∧ inb ((405 + (5 * v3)) + 3) 4100) ∧ isK sh c 9 ∧ (isA sh (c + 1) 10 4100 ∧ inb ((405 + (5 * v3)) + 4) 4100) ∧ Fx q_Mo_load 5 sh 148 [some (.ref c), some (.int v1), some (.int v2), some (.int v3), some (.int (405 + (5 * v3)))] [.int (hp.1 (c + 1) (ix ((405 + (5 * v3)) + 4))), .int (hp.1 (c + 1) (ix ((405 + (5 * v3)) + 3))), .int (hp.1 (c + 1) (ix ((405 + (5 * v3)) + 2))), .int (hp.1 (c + 1) (ix ((405 + (5 * v3)) + 1))), .int (hp.1 (c + 1) (ix ((405 + (5 * v3)) + 0))), .int v3, .int v1, .ref c] hp (some (.int res.2)) res.1
    refine ⟨hS.1, ⟨hS.2.1, g11⟩, hS.1, ⟨hS.2.1, g12⟩, hS.1, ⟨hS.2.1, g13⟩, hS.1, ⟨hS.2.1, g14⟩, hS.1, ⟨hS.2.1, g15⟩, ?_⟩
    replace hf := bnd hf
    obtain ⟨⟨h17, r16⟩, hr16, hf⟩ := hf
    dsimp only at hf
    refine Fx.callV (rr := (some (.int r16))) (hp1 := h17) [.int v1, .int v3, .int (hp.1 (c + 1) (ix ((405 + (5 * v3)) + 0))), .int (hp.1 (c + 1) (ix ((405 + (5 * v3)) + 1))), .int (hp.1 (c + 1) (ix ((405 + (5 * v3)) + 2))), .int (hp.1 (c + 1) (ix ((405 + (5 * v3)) + 3))), .int (hp.1 (c + 1) (ix ((405 + (5 * v3)) + 4)))] [] lk_9_103 (by decide +kernel) (t_Mo_comes sh c (hS) hp v1 v3 (hp.1 (c + 1) (ix ((405 + (5 * v3)) + 0))) (hp.1 (c + 1) (ix ((405 + (5 * v3)) + 1))) (hp.1 (c + 1) (ix ((405 + (5 * v3)) + 2))) (hp.1 (c + 1) (ix ((405 + (5 * v3)) + 3))) (hp.1 (c + 1) (ix ((405 + (5 * v3)) + 4))) (h17, r16) hr16) ⟨Nat.le_of_ble_eq_true rfl, Nat.le_of_ble_eq_true rfl⟩ (hS).1 (by decide) rfl (Nat.le_of_ble_eq_true rfl) ?_
    show Fx q_Mo_load 5 sh 151 [some (.ref c), some (.int v1), some (.int v2), some (.int v3), some (.int (405 + (5 * v3)))] [.int r16] h17 (some (.int res.2)) res.1
    refine Fx.if_eq (6) 157 154 (by decide +kernel) (fun b18 => ?_) (fun b18 => ?_)
    · replace hf := ifp b18 hf
      replace hf := mpd hf
      obtain ⟨t, hf, rfl⟩ := hf
      replace hf := gd hf
      obtain ⟨g19, hf⟩ := hf
      refine Fx.run [(.aload_n 0, 1, 0, 0, .null), (.getfield 9, 3, 9, 0, .ref 1), (.iconst 2, 1, 0, 0, .int 2), (.iload_n 1, 1, 1, 0, .null), (.iadd, 1, 0, 0, .null), (.iload_n 2, 1, 2, 0, .null), (.iastore, 1, 4100, 0, .null), (.iconst (-1), 1, 0, 0, .int (-1))] 167 (by decide +kernel) ?_
      show isK sh c 9 ∧ (isA sh (c + 1) 10 4100 ∧ inb (2 + v1) 4100) ∧ Fx q_Mo_load 5 sh 167 [some (.ref c), some (.int v1), some (.int v2), some (.int v3), some (.int (405 + (5 * v3)))] [.int (-1)] (upI h17 (c + 1) (ix (2 + v1)) v2) (some (.int res.2)) res.1
      refine ⟨hS.1, ⟨hS.2.1, g19⟩, ?_⟩
      obtain rfl := Option.some.inj hf
      have hk : ((upI h17 (c + 1) (ix (2 + v1)) v2), (-1)) = res := hk
      subst hk
      exact Fx.iret (by decide +kernel) rfl
    · replace hf := ifn b18 hf
      refine Fx.goto (14) 168 (by decide +kernel) ?_
      refine Fx.run [(.iinc 3 1, 3, 3, 0, .int 1)] 171 (by decide +kernel) ?_
      show Fx q_Mo_load 5 sh 171 [some (.ref c), some (.int v1), some (.int v2), some (.int (v3 + 1)), some (.int (405 + (5 * v3)))] [] h17 (some (.int res.2)) res.1
      refine Fx.goto (-92) 79 (by decide +kernel) ?_
      obtain rfl := Option.some.inj hf
      have hk : Fx q_Mo_load 5 sh 79 [some (.ref c), some (.int v1), some (.int v2), some (.int (v3 + 1)), none] [] h17 (some (.int res.2)) res.1 := hk
      exact Fx.le hk (And.intro rfl (And.intro rfl (And.intro rfl (And.intro rfl trivial))))
set_option maxHeartbeats 4000000 in
set_option maxRecDepth 20000 in
theorem t_Mo_load (sh : Shp) (c : Nat) (hS : S_Mo sh c) (hp : HP) (v1 : Int32) (res : (HP × Int32)) (hf : f_Mo_load c hp v1 = some res) : Ex 5 q_Mo_load sh [.ref c, .int v1] hp (some (.int res.2)) res.1 := by
  refine Ex.of [some (.ref c), some (.int v1), none, none, none] rfl (Nat.le_of_ble_eq_true rfl) (by decide +kernel) rfl ?_
  obtain ⟨t, hk⟩ : ∃ t, t = res := ⟨res, rfl⟩
  rw [← hk] at hf
  unfold f_Mo_load at hf
  refine Fx.run [(.aload_n 0, 1, 0, 0, .null), (.getfield 9, 3, 9, 0, .ref 1), (.sipush 605, 3, 0, 0, .int 605), (.iconst 0, 1, 0, 0, .int 0), (.iastore, 1, 4100, 0, .null), (.iload_n 1, 1, 1, 0, .null)] 10 (by decide +kernel) ?_
  show isK sh c 9 ∧ (isA sh (c + 1) 10 4100 ∧ inb 605 4100) ∧ Fx q_Mo_load 5 sh 10 [some (.ref c), some (.int v1), none, none, none] [.int v1] (upI hp (c + 1) (ix 605) 0) (some (.int res.2)) res.1
  refine ⟨hS.1, ⟨hS.2.1, (by decide)⟩, ?_⟩
  replace hf := bnd hf
  obtain ⟨r1, hr1, hf⟩ := hf
  refine Fx.callS (rr := (some (.int r1))) (hp1 := (upI hp (c + 1) (ix 605) 0)) [.int v1] [] lk_9_52 (by decide +kernel) (t_Mo_isSide sh (upI hp (c + 1) (ix 605) 0) v1 r1 hr1) ⟨Nat.le_of_ble_eq_true rfl, Nat.le_of_ble_eq_true rfl⟩ rfl (Nat.le_of_ble_eq_true rfl) ?_
  show Fx q_Mo_load 5 sh 13 [some (.ref c), some (.int v1), none, none, none] [.int r1] (upI hp (c + 1) (ix 605) 0) (some (.int res.2)) res.1
  refine Fx.if_ne (6) 19 16 (by decide +kernel) (fun b2 => ?_) (fun b2 => ?_)
  · replace hf := ifn b2 hf
    refine Fx.run [(.aload_n 0, 1, 0, 0, .null)] 20 (by decide +kernel) ?_
    show Fx q_Mo_load 5 sh 20 [some (.ref c), some (.int v1), none, none, none] [.ref c] (upI hp (c + 1) (ix 605) 0) (some (.int res.2)) res.1
    replace hf := bnd hf
    obtain ⟨r3, hr3, hf⟩ := hf
    refine Fx.callV (rr := (some (.int r3))) (hp1 := (upI hp (c + 1) (ix 605) 0)) [] [] lk_9_80 (by decide +kernel) (t_Mo_isSweeping sh c (hS) (upI hp (c + 1) (ix 605) 0) r3 hr3) ⟨Nat.le_of_ble_eq_true rfl, Nat.le_of_ble_eq_true rfl⟩ (hS).1 (by decide) rfl (Nat.le_of_ble_eq_true rfl) ?_
    show Fx q_Mo_load 5 sh 23 [some (.ref c), some (.int v1), none, none, none] [.int r3] (upI hp (c + 1) (ix 605) 0) (some (.int res.2)) res.1
    refine Fx.if_eq (32) 55 26 (by decide +kernel) (fun b4 => ?_) (fun b4 => ?_)
    · replace hf := ifp b4 hf
      replace hf := gd hf
      obtain ⟨g5, hf⟩ := hf
      refine Fx.run [(.aload_n 0, 1, 0, 0, .null), (.getfield 9, 3, 9, 0, .ref 1), (.iconst 2, 1, 0, 0, .int 2), (.iload_n 1, 1, 1, 0, .null), (.iadd, 1, 0, 0, .null), (.iaload, 1, 4100, 0, .null), (.istore_n 2, 1, 2, 0, .null), (.aload_n 0, 1, 0, 0, .null), (.iconst 1, 1, 0, 0, .int 1), (.aload_n 0, 1, 0, 0, .null), (.getfield 9, 3, 9, 0, .ref 1), (.sipush 404, 3, 0, 0, .int 404), (.iaload, 1, 4100, 0, .null)] 74 (by decide +kernel) ?_
      show isK sh c 9 ∧ (isA sh (c + 1) 10 4100 ∧ inb (2 + v1) 4100) ∧ isK sh c 9 ∧ (isA sh (c + 1) 10 4100 ∧ inb 404 4100) ∧ Fx q_Mo_load 5 sh 74 [some (.ref c), some (.int v1), some (.int ((upI hp (c + 1) (ix 605) 0).1 (c + 1) (ix (2 + v1)))), none, none] [.int ((upI hp (c + 1) (ix 605) 0).1 (c + 1) (ix 404)), .int 1, .ref c] (upI hp (c + 1) (ix 605) 0) (some (.int res.2)) res.1
      refine ⟨hS.1, ⟨hS.2.1, g5⟩, hS.1, ⟨hS.2.1, (by decide)⟩, ?_⟩
      replace hf := bnd hf
      obtain ⟨h7, hr6, hf⟩ := hf
      refine Fx.callV (rr := none) (hp1 := h7) [.int 1, .int ((upI hp (c + 1) (ix 605) 0).1 (c + 1) (ix 404))] [] lk_9_84 (by decide +kernel) (t_Mo_causes sh c (hS) (upI hp (c + 1) (ix 605) 0) 1 ((upI hp (c + 1) (ix 605) 0).1 (c + 1) (ix 404)) h7 hr6) ⟨Nat.le_of_ble_eq_true rfl, Nat.le_of_ble_eq_true rfl⟩ (hS).1 (by decide) rfl (Nat.le_of_ble_eq_true rfl) ?_
      show Fx q_Mo_load 5 sh 77 [some (.ref c), some (.int v1), some (.int ((upI hp (c + 1) (ix 605) 0).1 (c + 1) (ix (2 + v1)))), none, none] [] h7 (some (.int res.2)) res.1
      refine Fx.run [(.iconst 0, 1, 0, 0, .int 0), (.istore_n 3, 1, 3, 0, .null)] 79 (by decide +kernel) ?_
      show Fx q_Mo_load 5 sh 79 [some (.ref c), some (.int v1), some (.int ((upI hp (c + 1) (ix 605) 0).1 (c + 1) (ix (2 + v1)))), some (.int 0), none] [] h7 (some (.int res.2)) res.1
      have hl := t_Mo_load_l79 sh c hS h7 v1 ((upI hp (c + 1) (ix 605) 0).1 (c + 1) (ix (2 + v1))) res (h7, 0) _ hf hk
      have hl : Fx q_Mo_load 5 sh 79 [some (.ref c), some (.int v1), some (.int ((upI hp (c + 1) (ix 605) 0).1 (c + 1) (ix (2 + v1)))), some (.int 0), none] [] h7 (some (.int res.2)) res.1 := hl
      exact Fx.le hl (And.intro rfl (And.intro rfl (And.intro rfl (And.intro rfl trivial))))
    · replace hf := ifn b4 hf
      refine Fx.run [(.aload_n 0, 1, 0, 0, .null), (.iconst 1, 1, 0, 0, .int 1), (.aload_n 0, 1, 0, 0, .null), (.getfield 9, 3, 9, 0, .ref 1), (.sipush 404, 3, 0, 0, .int 404), (.iaload, 1, 4100, 0, .null)] 36 (by decide +kernel) ?_
      show isK sh c 9 ∧ (isA sh (c + 1) 10 4100 ∧ inb 404 4100) ∧ Fx q_Mo_load 5 sh 36 [some (.ref c), some (.int v1), none, none, none] [.int ((upI hp (c + 1) (ix 605) 0).1 (c + 1) (ix 404)), .int 1, .ref c] (upI hp (c + 1) (ix 605) 0) (some (.int res.2)) res.1
      refine ⟨hS.1, ⟨hS.2.1, (by decide)⟩, ?_⟩
      replace hf := bnd hf
      obtain ⟨h21, hr20, hf⟩ := hf
      refine Fx.callV (rr := none) (hp1 := h21) [.int 1, .int ((upI hp (c + 1) (ix 605) 0).1 (c + 1) (ix 404))] [] lk_9_84 (by decide +kernel) (t_Mo_causes sh c (hS) (upI hp (c + 1) (ix 605) 0) 1 ((upI hp (c + 1) (ix 605) 0).1 (c + 1) (ix 404)) h21 hr20) ⟨Nat.le_of_ble_eq_true rfl, Nat.le_of_ble_eq_true rfl⟩ (hS).1 (by decide) rfl (Nat.le_of_ble_eq_true rfl) ?_
      show Fx q_Mo_load 5 sh 39 [some (.ref c), some (.int v1), none, none, none] [] h21 (some (.int res.2)) res.1
      refine Fx.run [(.aload_n 0, 1, 0, 0, .null), (.bipush 8, 2, 0, 0, .int 8), (.aload_n 0, 1, 0, 0, .null), (.getfield 9, 3, 9, 0, .ref 1), (.sipush 615, 3, 0, 0, .int 615), (.iaload, 1, 4100, 0, .null)] 50 (by decide +kernel) ?_
      show isK sh c 9 ∧ (isA sh (c + 1) 10 4100 ∧ inb 615 4100) ∧ Fx q_Mo_load 5 sh 50 [some (.ref c), some (.int v1), none, none, none] [.int (h21.1 (c + 1) (ix 615)), .int 8, .ref c] h21 (some (.int res.2)) res.1
      refine ⟨hS.1, ⟨hS.2.1, (by decide)⟩, ?_⟩
      replace hf := bnd hf
      obtain ⟨h23, hr22, hf⟩ := hf
      refine Fx.callV (rr := none) (hp1 := h23) [.int 8, .int (h21.1 (c + 1) (ix 615))] [] lk_9_84 (by decide +kernel) (t_Mo_causes sh c (hS) h21 8 (h21.1 (c + 1) (ix 615)) h23 hr22) ⟨Nat.le_of_ble_eq_true rfl, Nat.le_of_ble_eq_true rfl⟩ (hS).1 (by decide) rfl (Nat.le_of_ble_eq_true rfl) ?_
      show Fx q_Mo_load 5 sh 53 [some (.ref c), some (.int v1), none, none, none] [] h23 (some (.int res.2)) res.1
      refine Fx.run [(.iconst (-1), 1, 0, 0, .int (-1))] 54 (by decide +kernel) ?_
      show Fx q_Mo_load 5 sh 54 [some (.ref c), some (.int v1), none, none, none] [.int (-1)] h23 (some (.int res.2)) res.1
      obtain rfl := Option.some.inj hf
      have hk : (h23, (-1)) = res := hk
      subst hk
      exact Fx.iret (by decide +kernel) rfl
  · replace hf := ifp b2 hf
    refine Fx.run [(.bipush (-2), 2, 0, 0, .int (-2))] 18 (by decide +kernel) ?_
    show Fx q_Mo_load 5 sh 18 [some (.ref c), some (.int v1), none, none, none] [.int (-2)] (upI hp (c + 1) (ix 605) 0) (some (.int res.2)) res.1
    obtain rfl := Option.some.inj hf
    have hk : ((upI hp (c + 1) (ix 605) 0), (-2)) = res := hk
    subst hk
    exact Fx.iret (by decide +kernel) rfl
set_option maxHeartbeats 4000000 in
set_option maxRecDepth 20000 in
theorem t_Mo_add (sh : Shp) (c : Nat) (hS : S_Mo sh c) (hp : HP) (v1 : Int32) (v2 : Int32) (v3 : Int32) (v4 : Int32) (v5 : Int32) (v6 : Int32) (res : (HP × Int32)) (hf : f_Mo_add c hp v1 v2 v3 v4 v5 v6 = some res) : Ex 5 q_Mo_add sh [.ref c, .int v1, .int v2, .int v3, .int v4, .int v5, .int v6] hp (some (.int res.2)) res.1 := by
  refine Ex.of [some (.ref c), some (.int v1), some (.int v2), some (.int v3), some (.int v4), some (.int v5), some (.int v6)] rfl (Nat.le_of_ble_eq_true rfl) (by decide +kernel) rfl ?_
  obtain ⟨t, hk⟩ : ∃ t, t = res := ⟨res, rfl⟩
  rw [← hk] at hf
  unfold f_Mo_add at hf
  refine Fx.run [(.aload_n 0, 1, 0, 0, .null), (.getfield 9, 3, 9, 0, .ref 1), (.sipush 605, 3, 0, 0, .int 605), (.iconst 0, 1, 0, 0, .int 0), (.iastore, 1, 4100, 0, .null), (.iload_n 1, 1, 1, 0, .null)] 10 (by decide +kernel) ?_
  show isK sh c 9 ∧ (isA sh (c + 1) 10 4100 ∧ inb 605 4100) ∧ Fx q_Mo_add 5 sh 10 [some (.ref c), some (.int v1), some (.int v2), some (.int v3), some (.int v4), some (.int v5), some (.int v6)] [.int v1] (upI hp (c + 1) (ix 605) 0) (some (.int res.2)) res.1
  refine ⟨hS.1, ⟨hS.2.1, (by decide)⟩, ?_⟩
  replace hf := bnd hf
  obtain ⟨r1, hr1, hf⟩ := hf
  refine Fx.callS (rr := (some (.int r1))) (hp1 := (upI hp (c + 1) (ix 605) 0)) [.int v1] [] lk_9_52 (by decide +kernel) (t_Mo_isSide sh (upI hp (c + 1) (ix 605) 0) v1 r1 hr1) ⟨Nat.le_of_ble_eq_true rfl, Nat.le_of_ble_eq_true rfl⟩ rfl (Nat.le_of_ble_eq_true rfl) ?_
  show Fx q_Mo_add 5 sh 13 [some (.ref c), some (.int v1), some (.int v2), some (.int v3), some (.int v4), some (.int v5), some (.int v6)] [.int r1] (upI hp (c + 1) (ix 605) 0) (some (.int res.2)) res.1
  refine Fx.if_ne (6) 19 16 (by decide +kernel) (fun b2 => ?_) (fun b2 => ?_)
  · replace hf := ifn b2 hf
    refine Fx.run [(.aload_n 0, 1, 0, 0, .null)] 20 (by decide +kernel) ?_
    show Fx q_Mo_add 5 sh 20 [some (.ref c), some (.int v1), some (.int v2), some (.int v3), some (.int v4), some (.int v5), some (.int v6)] [.ref c] (upI hp (c + 1) (ix 605) 0) (some (.int res.2)) res.1
    replace hf := bnd hf
    obtain ⟨r3, hr3, hf⟩ := hf
    refine Fx.callV (rr := (some (.int r3))) (hp1 := (upI hp (c + 1) (ix 605) 0)) [] [] lk_9_80 (by decide +kernel) (t_Mo_isSweeping sh c (hS) (upI hp (c + 1) (ix 605) 0) r3 hr3) ⟨Nat.le_of_ble_eq_true rfl, Nat.le_of_ble_eq_true rfl⟩ (hS).1 (by decide) rfl (Nat.le_of_ble_eq_true rfl) ?_
    show Fx q_Mo_add 5 sh 23 [some (.ref c), some (.int v1), some (.int v2), some (.int v3), some (.int v4), some (.int v5), some (.int v6)] [.int r3] (upI hp (c + 1) (ix 605) 0) (some (.int res.2)) res.1
    refine Fx.if_eq (19) 42 26 (by decide +kernel) (fun b4 => ?_) (fun b4 => ?_)
    · replace hf := ifp b4 hf
      refine Fx.run [(.aload_n 0, 1, 0, 0, .null), (.iload_n 1, 1, 1, 0, .null), (.iconst 0, 1, 0, 0, .int 0), (.iload_n 2, 1, 2, 0, .null), (.iload_n 3, 1, 3, 0, .null), (.iload 4, 2, 4, 0, .null), (.iload 5, 2, 5, 0, .null), (.iload 6, 2, 6, 0, .null)] 53 (by decide +kernel) ?_
      show Fx q_Mo_add 5 sh 53 [some (.ref c), some (.int v1), some (.int v2), some (.int v3), some (.int v4), some (.int v5), some (.int v6)] [.int v6, .int v5, .int v4, .int v3, .int v2, .int 0, .int v1, .ref c] (upI hp (c + 1) (ix 605) 0) (some (.int res.2)) res.1
      replace hf := bnd hf
      obtain ⟨⟨h6, r5⟩, hr5, hf⟩ := hf
      dsimp only at hf
      refine Fx.callV (rr := (some (.int r5))) (hp1 := h6) [.int v1, .int 0, .int v2, .int v3, .int v4, .int v5, .int v6] [] lk_9_103 (by decide +kernel) (t_Mo_comes sh c (hS) (upI hp (c + 1) (ix 605) 0) v1 0 v2 v3 v4 v5 v6 (h6, r5) hr5) ⟨Nat.le_of_ble_eq_true rfl, Nat.le_of_ble_eq_true rfl⟩ (hS).1 (by decide) rfl (Nat.le_of_ble_eq_true rfl) ?_
      show Fx q_Mo_add 5 sh 56 [some (.ref c), some (.int v1), some (.int v2), some (.int v3), some (.int v4), some (.int v5), some (.int v6)] [.int r5] h6 (some (.int res.2)) res.1
      refine Fx.if_eq (16) 72 59 (by decide +kernel) (fun b7 => ?_) (fun b7 => ?_)
      · replace hf := ifp b7 hf
        refine Fx.run [(.iconst (-1), 1, 0, 0, .int (-1))] 73 (by decide +kernel) ?_
        show Fx q_Mo_add 5 sh 73 [some (.ref c), some (.int v1), some (.int v2), some (.int v3), some (.int v4), some (.int v5), some (.int v6)] [.int (-1)] h6 (some (.int res.2)) res.1
        obtain rfl := Option.some.inj hf
        have hk : (h6, (-1)) = res := hk
        subst hk
        exact Fx.iret (by decide +kernel) rfl
      · replace hf := ifn b7 hf
        replace hf := gd hf
        obtain ⟨g8, hf⟩ := hf
        refine Fx.run [(.aload_n 0, 1, 0, 0, .null), (.getfield 9, 3, 9, 0, .ref 1), (.iconst 2, 1, 0, 0, .int 2), (.iload_n 1, 1, 1, 0, .null), (.iadd, 1, 0, 0, .null), (.iaload, 1, 4100, 0, .null), (.iconst 1, 1, 0, 0, .int 1), (.isub, 1, 0, 0, .null)] 69 (by decide +kernel) ?_
        show isK sh c 9 ∧ (isA sh (c + 1) 10 4100 ∧ inb (2 + v1) 4100) ∧ Fx q_Mo_add 5 sh 69 [some (.ref c), some (.int v1), some (.int v2), some (.int v3), some (.int v4), some (.int v5), some (.int v6)] [.int ((h6.1 (c + 1) (ix (2 + v1))) - 1)] h6 (some (.int res.2)) res.1
        refine ⟨hS.1, ⟨hS.2.1, g8⟩, ?_⟩
        refine Fx.goto (4) 73 (by decide +kernel) ?_
        obtain rfl := Option.some.inj hf
        have hk : (h6, ((h6.1 (c + 1) (ix (2 + v1))) - 1)) = res := hk
        subst hk
        exact Fx.iret (by decide +kernel) rfl
    · replace hf := ifn b4 hf
      refine Fx.run [(.aload_n 0, 1, 0, 0, .null), (.bipush 8, 2, 0, 0, .int 8), (.aload_n 0, 1, 0, 0, .null), (.getfield 9, 3, 9, 0, .ref 1), (.sipush 615, 3, 0, 0, .int 615), (.iaload, 1, 4100, 0, .null)] 37 (by decide +kernel) ?_
      show isK sh c 9 ∧ (isA sh (c + 1) 10 4100 ∧ inb 615 4100) ∧ Fx q_Mo_add 5 sh 37 [some (.ref c), some (.int v1), some (.int v2), some (.int v3), some (.int v4), some (.int v5), some (.int v6)] [.int ((upI hp (c + 1) (ix 605) 0).1 (c + 1) (ix 615)), .int 8, .ref c] (upI hp (c + 1) (ix 605) 0) (some (.int res.2)) res.1
      refine ⟨hS.1, ⟨hS.2.1, (by decide)⟩, ?_⟩
      replace hf := bnd hf
      obtain ⟨h10, hr9, hf⟩ := hf
      refine Fx.callV (rr := none) (hp1 := h10) [.int 8, .int ((upI hp (c + 1) (ix 605) 0).1 (c + 1) (ix 615))] [] lk_9_84 (by decide +kernel) (t_Mo_causes sh c (hS) (upI hp (c + 1) (ix 605) 0) 8 ((upI hp (c + 1) (ix 605) 0).1 (c + 1) (ix 615)) h10 hr9) ⟨Nat.le_of_ble_eq_true rfl, Nat.le_of_ble_eq_true rfl⟩ (hS).1 (by decide) rfl (Nat.le_of_ble_eq_true rfl) ?_
      show Fx q_Mo_add 5 sh 40 [some (.ref c), some (.int v1), some (.int v2), some (.int v3), some (.int v4), some (.int v5), some (.int v6)] [] h10 (some (.int res.2)) res.1
      refine Fx.run [(.iconst (-1), 1, 0, 0, .int (-1))] 41 (by decide +kernel) ?_
      show Fx q_Mo_add 5 sh 41 [some (.ref c), some (.int v1), some (.int v2), some (.int v3), some (.int v4), some (.int v5), some (.int v6)] [.int (-1)] h10 (some (.int res.2)) res.1
      obtain rfl := Option.some.inj hf
      have hk : (h10, (-1)) = res := hk
      subst hk
      exact Fx.iret (by decide +kernel) rfl
  · replace hf := ifp b2 hf
    refine Fx.run [(.bipush (-2), 2, 0, 0, .int (-2))] 18 (by decide +kernel) ?_
    show Fx q_Mo_add 5 sh 18 [some (.ref c), some (.int v1), some (.int v2), some (.int v3), some (.int v4), some (.int v5), some (.int v6)] [.int (-2)] (upI hp (c + 1) (ix 605) 0) (some (.int res.2)) res.1
    obtain rfl := Option.some.inj hf
    have hk : ((upI hp (c + 1) (ix 605) 0), (-2)) = res := hk
    subst hk
    exact Fx.iret (by decide +kernel) rfl
set_option maxHeartbeats 4000000 in
set_option maxRecDepth 20000 in
theorem t_Mo_event (sh : Shp) (hp : HP) (v0 : Int32) (v1 : Int32) (v2 : Int32) (res : Int32) (hf : f_Mo_event v0 v1 v2 = some res) : Ex 1 q_Mo_event sh [.int v0, .int v1, .int v2] hp (some (.int res)) hp := by
  refine Ex.of [some (.int v0), some (.int v1), some (.int v2)] rfl (Nat.le_of_ble_eq_true rfl) (by decide +kernel) rfl ?_
  obtain ⟨t, hk⟩ : ∃ t, t = res := ⟨res, rfl⟩
  rw [← hk] at hf
  unfold f_Mo_event at hf
  refine Fx.run [(.iconst 2, 1, 0, 0, .int 2), (.bipush 40, 2, 0, 0, .int 40), (.iload_n 0, 1, 0, 0, .null), (.imul, 1, 0, 0, .null), (.iload_n 1, 1, 1, 0, .null), (.iadd, 1, 0, 0, .null), (.imul, 1, 0, 0, .null), (.iload_n 2, 1, 2, 0, .null), (.iadd, 1, 0, 0, .null)] 10 (by decide +kernel) ?_
  show Fx q_Mo_event 1 sh 10 [some (.int v0), some (.int v1), some (.int v2)] [.int ((2 * ((40 * v0) + v1)) + v2)] hp (some (.int res)) hp
  obtain rfl := Option.some.inj hf
  have hk : ((2 * ((40 * v0) + v1)) + v2) = res := hk
  subst hk
  exact Fx.iret (by decide +kernel) rfl
set_option maxHeartbeats 4000000 in
set_option maxRecDepth 20000 in
theorem t_Mo_sideOf (sh : Shp) (hp : HP) (v0 : Int32) (res : Int32) (hf : f_Mo_sideOf v0 = some res) : Ex 1 q_Mo_sideOf sh [.int v0] hp (some (.int res)) hp := by
  refine Ex.of [some (.int v0)] rfl (Nat.le_of_ble_eq_true rfl) (by decide +kernel) rfl ?_
  obtain ⟨t, hk⟩ : ∃ t, t = res := ⟨res, rfl⟩
  rw [← hk] at hf
  unfold f_Mo_sideOf at hf
  refine Fx.run [(.iload_n 0, 1, 0, 0, .null), (.iconst 2, 1, 0, 0, .int 2), (.idiv, 1, 0, 0, .null), (.bipush 40, 2, 0, 0, .int 40), (.idiv, 1, 0, 0, .null)] 6 (by decide +kernel) ?_
  show ¬ (2 : Int32) = 0 ∧ ¬ (40 : Int32) = 0 ∧ Fx q_Mo_sideOf 1 sh 6 [some (.int v0)] [.int ((v0 / 2) / 40)] hp (some (.int res)) hp
  refine ⟨(by decide), (by decide), ?_⟩
  obtain rfl := Option.some.inj hf
  have hk : ((v0 / 2) / 40) = res := hk
  subst hk
  exact Fx.iret (by decide +kernel) rfl
set_option maxHeartbeats 4000000 in
set_option maxRecDepth 20000 in
theorem t_Mo_rowOf (sh : Shp) (hp : HP) (v0 : Int32) (res : Int32) (hf : f_Mo_rowOf v0 = some res) : Ex 1 q_Mo_rowOf sh [.int v0] hp (some (.int res)) hp := by
  refine Ex.of [some (.int v0)] rfl (Nat.le_of_ble_eq_true rfl) (by decide +kernel) rfl ?_
  obtain ⟨t, hk⟩ : ∃ t, t = res := ⟨res, rfl⟩
  rw [← hk] at hf
  unfold f_Mo_rowOf at hf
  refine Fx.run [(.iload_n 0, 1, 0, 0, .null), (.iconst 2, 1, 0, 0, .int 2), (.idiv, 1, 0, 0, .null), (.bipush 40, 2, 0, 0, .int 40), (.irem, 1, 0, 0, .null)] 6 (by decide +kernel) ?_
  show ¬ (2 : Int32) = 0 ∧ ¬ (40 : Int32) = 0 ∧ Fx q_Mo_rowOf 1 sh 6 [some (.int v0)] [.int ((v0 / 2) - (v0 / 2) / 40 * 40)] hp (some (.int res)) hp
  refine ⟨(by decide), (by decide), ?_⟩
  obtain rfl := Option.some.inj hf
  have hk : ((v0 / 2) - (v0 / 2) / 40 * 40) = res := hk
  subst hk
  exact Fx.iret (by decide +kernel) rfl
set_option maxHeartbeats 4000000 in
set_option maxRecDepth 20000 in
theorem t_Mo_isStart (sh : Shp) (hp : HP) (v0 : Int32) (res : Int32) (hf : f_Mo_isStart v0 = some res) : Ex 1 q_Mo_isStart sh [.int v0] hp (some (.int res)) hp := by
  refine Ex.of [some (.int v0)] rfl (Nat.le_of_ble_eq_true rfl) (by decide +kernel) rfl ?_
  obtain ⟨t, hk⟩ : ∃ t, t = res := ⟨res, rfl⟩
  rw [← hk] at hf
  unfold f_Mo_isStart at hf
  refine Fx.run [(.iload_n 0, 1, 0, 0, .null), (.iconst 2, 1, 0, 0, .int 2), (.irem, 1, 0, 0, .null), (.iconst 1, 1, 0, 0, .int 1)] 4 (by decide +kernel) ?_
  show ¬ (2 : Int32) = 0 ∧ Fx q_Mo_isStart 1 sh 4 [some (.int v0)] [.int 1, .int (v0 - v0 / 2 * 2)] hp (some (.int res)) hp
  refine ⟨(by decide), ?_⟩
  refine Fx.icmp_ne (7) 11 7 (by decide +kernel) (fun b1 => ?_) (fun b1 => ?_)
  · replace hf := ifn b1 hf
    refine Fx.run [(.iconst 0, 1, 0, 0, .int 0)] 12 (by decide +kernel) ?_
    show Fx q_Mo_isStart 1 sh 12 [some (.int v0)] [.int 0] hp (some (.int res)) hp
    obtain rfl := Option.some.inj hf
    have hk : 0 = res := hk
    subst hk
    exact Fx.zret (by decide +kernel) rfl (Or.inl rfl)
  · replace hf := ifp b1 hf
    refine Fx.run [(.iconst 1, 1, 0, 0, .int 1)] 8 (by decide +kernel) ?_
    show Fx q_Mo_isStart 1 sh 8 [some (.int v0)] [.int 1] hp (some (.int res)) hp
    refine Fx.goto (4) 12 (by decide +kernel) ?_
    obtain rfl := Option.some.inj hf
    have hk : 1 = res := hk
    subst hk
    exact Fx.zret (by decide +kernel) rfl (Or.inr rfl)
set_option maxHeartbeats 4000000 in
set_option maxRecDepth 20000 in
theorem t_Mo_placeOf (sh : Shp) (c : Nat) (hS : S_Mo sh c) (hp : HP) (v1 : Int32) (res : Int32) (hf : f_Mo_placeOf c hp v1 = some res) : Ex 4 q_Mo_placeOf sh [.ref c, .int v1] hp (some (.int res)) hp := by
  refine Ex.of [some (.ref c), some (.int v1)] rfl (Nat.le_of_ble_eq_true rfl) (by decide +kernel) rfl ?_
  obtain ⟨t, hk⟩ : ∃ t, t = res := ⟨res, rfl⟩
  rw [← hk] at hf
  unfold f_Mo_placeOf at hf
  refine Fx.run [(.iload_n 1, 1, 1, 0, .null)] 1 (by decide +kernel) ?_
  show Fx q_Mo_placeOf 4 sh 1 [some (.ref c), some (.int v1)] [.int v1] hp (some (.int res)) hp
  replace hf := bnd hf
  obtain ⟨r1, hr1, hf⟩ := hf
  refine Fx.callS (rr := (some (.int r1))) (hp1 := hp) [.int v1] [] lk_9_111 (by decide +kernel) (t_Mo_isStart sh hp v1 r1 hr1) ⟨Nat.le_of_ble_eq_true rfl, Nat.le_of_ble_eq_true rfl⟩ rfl (Nat.le_of_ble_eq_true rfl) ?_
  show Fx q_Mo_placeOf 4 sh 4 [some (.ref c), some (.int v1)] [.int r1] hp (some (.int res)) hp
  refine Fx.if_eq (18) 22 7 (by decide +kernel) (fun b2 => ?_) (fun b2 => ?_)
  · replace hf := ifp b2 hf
    refine Fx.run [(.aload_n 0, 1, 0, 0, .null), (.iload_n 1, 1, 1, 0, .null)] 24 (by decide +kernel) ?_
    show Fx q_Mo_placeOf 4 sh 24 [some (.ref c), some (.int v1)] [.int v1, .ref c] hp (some (.int res)) hp
    replace hf := bnd hf
    obtain ⟨r3, hr3, hf⟩ := hf
    refine Fx.callS (rr := (some (.int r3))) (hp1 := hp) [.int v1] [.ref c] lk_9_114 (by decide +kernel) (t_Mo_sideOf sh hp v1 r3 hr3) ⟨Nat.le_of_ble_eq_true rfl, Nat.le_of_ble_eq_true rfl⟩ rfl (Nat.le_of_ble_eq_true rfl) ?_
    show Fx q_Mo_placeOf 4 sh 27 [some (.ref c), some (.int v1)] [.int r3, .ref c] hp (some (.int res)) hp
    refine Fx.run [(.iload_n 1, 1, 1, 0, .null)] 28 (by decide +kernel) ?_
    show Fx q_Mo_placeOf 4 sh 28 [some (.ref c), some (.int v1)] [.int v1, .int r3, .ref c] hp (some (.int res)) hp
    replace hf := bnd hf
    obtain ⟨r4, hr4, hf⟩ := hf
    refine Fx.callS (rr := (some (.int r4))) (hp1 := hp) [.int v1] [.int r3, .ref c] lk_9_118 (by decide +kernel) (t_Mo_rowOf sh hp v1 r4 hr4) ⟨Nat.le_of_ble_eq_true rfl, Nat.le_of_ble_eq_true rfl⟩ rfl (Nat.le_of_ble_eq_true rfl) ?_
    show Fx q_Mo_placeOf 4 sh 31 [some (.ref c), some (.int v1)] [.int r4, .int r3, .ref c] hp (some (.int res)) hp
    replace hf := bnd hf
    obtain ⟨r5, hr5, hf⟩ := hf
    refine Fx.callV (rr := (some (.int r5))) (hp1 := hp) [.int r3, .int r4] [] lk_9_59 (by decide +kernel) (t_Mo_endOf sh c (hS) hp r3 r4 r5 hr5) ⟨Nat.le_of_ble_eq_true rfl, Nat.le_of_ble_eq_true rfl⟩ (hS).1 (by decide) rfl (Nat.le_of_ble_eq_true rfl) ?_
    show Fx q_Mo_placeOf 4 sh 34 [some (.ref c), some (.int v1)] [.int r5] hp (some (.int res)) hp
    obtain rfl := Option.some.inj hf
    have hk : r5 = res := hk
    subst hk
    exact Fx.iret (by decide +kernel) rfl
  · replace hf := ifn b2 hf
    refine Fx.run [(.aload_n 0, 1, 0, 0, .null), (.iload_n 1, 1, 1, 0, .null)] 9 (by decide +kernel) ?_
    show Fx q_Mo_placeOf 4 sh 9 [some (.ref c), some (.int v1)] [.int v1, .ref c] hp (some (.int res)) hp
    replace hf := bnd hf
    obtain ⟨r6, hr6, hf⟩ := hf
    refine Fx.callS (rr := (some (.int r6))) (hp1 := hp) [.int v1] [.ref c] lk_9_114 (by decide +kernel) (t_Mo_sideOf sh hp v1 r6 hr6) ⟨Nat.le_of_ble_eq_true rfl, Nat.le_of_ble_eq_true rfl⟩ rfl (Nat.le_of_ble_eq_true rfl) ?_
    show Fx q_Mo_placeOf 4 sh 12 [some (.ref c), some (.int v1)] [.int r6, .ref c] hp (some (.int res)) hp
    refine Fx.run [(.iload_n 1, 1, 1, 0, .null)] 13 (by decide +kernel) ?_
    show Fx q_Mo_placeOf 4 sh 13 [some (.ref c), some (.int v1)] [.int v1, .int r6, .ref c] hp (some (.int res)) hp
    replace hf := bnd hf
    obtain ⟨r7, hr7, hf⟩ := hf
    refine Fx.callS (rr := (some (.int r7))) (hp1 := hp) [.int v1] [.int r6, .ref c] lk_9_118 (by decide +kernel) (t_Mo_rowOf sh hp v1 r7 hr7) ⟨Nat.le_of_ble_eq_true rfl, Nat.le_of_ble_eq_true rfl⟩ rfl (Nat.le_of_ble_eq_true rfl) ?_
    show Fx q_Mo_placeOf 4 sh 16 [some (.ref c), some (.int v1)] [.int r7, .int r6, .ref c] hp (some (.int res)) hp
    replace hf := bnd hf
    obtain ⟨r8, hr8, hf⟩ := hf
    refine Fx.callV (rr := (some (.int r8))) (hp1 := hp) [.int r6, .int r7] [] lk_9_56 (by decide +kernel) (t_Mo_startOf sh c (hS) hp r6 r7 r8 hr8) ⟨Nat.le_of_ble_eq_true rfl, Nat.le_of_ble_eq_true rfl⟩ (hS).1 (by decide) rfl (Nat.le_of_ble_eq_true rfl) ?_
    show Fx q_Mo_placeOf 4 sh 19 [some (.ref c), some (.int v1)] [.int r8] hp (some (.int res)) hp
    refine Fx.goto (15) 34 (by decide +kernel) ?_
    obtain rfl := Option.some.inj hf
    have hk : r8 = res := hk
    subst hk
    exact Fx.iret (by decide +kernel) rfl
set_option maxHeartbeats 4000000 in
set_option maxRecDepth 20000 in
theorem t_Mo_isAhead (sh : Shp) (c : Nat) (hS : S_Mo sh c) (hp : HP) (v1 : Int32) (v2 : Int32) (res : Int32) (hf : f_Mo_isAhead c hp v1 v2 = some res) : Ex 5 q_Mo_isAhead sh [.ref c, .int v1, .int v2] hp (some (.int res)) hp := by
  refine Ex.of [some (.ref c), some (.int v1), some (.int v2)] rfl (Nat.le_of_ble_eq_true rfl) (by decide +kernel) rfl ?_
  obtain ⟨t, hk⟩ : ∃ t, t = res := ⟨res, rfl⟩
  rw [← hk] at hf
  unfold f_Mo_isAhead at hf
  refine Fx.run [(.aload_n 0, 1, 0, 0, .null), (.iload_n 1, 1, 1, 0, .null)] 2 (by decide +kernel) ?_
  show Fx q_Mo_isAhead 5 sh 2 [some (.ref c), some (.int v1), some (.int v2)] [.int v1, .ref c] hp (some (.int res)) hp
  replace hf := bnd hf
  obtain ⟨r1, hr1, hf⟩ := hf
  refine Fx.callV (rr := (some (.int r1))) (hp1 := hp) [.int v1] [] lk_9_121 (by decide +kernel) (t_Mo_placeOf sh c (hS) hp v1 r1 hr1) ⟨Nat.le_of_ble_eq_true rfl, Nat.le_of_ble_eq_true rfl⟩ (hS).1 (by decide) rfl (Nat.le_of_ble_eq_true rfl) ?_
  show Fx q_Mo_isAhead 5 sh 5 [some (.ref c), some (.int v1), some (.int v2)] [.int r1] hp (some (.int res)) hp
  refine Fx.run [(.aload_n 0, 1, 0, 0, .null), (.iload_n 2, 1, 2, 0, .null)] 7 (by decide +kernel) ?_
  show Fx q_Mo_isAhead 5 sh 7 [some (.ref c), some (.int v1), some (.int v2)] [.int v2, .ref c, .int r1] hp (some (.int res)) hp
  replace hf := bnd hf
  obtain ⟨r2, hr2, hf⟩ := hf
  refine Fx.callV (rr := (some (.int r2))) (hp1 := hp) [.int v2] [.int r1] lk_9_121 (by decide +kernel) (t_Mo_placeOf sh c (hS) hp v2 r2 hr2) ⟨Nat.le_of_ble_eq_true rfl, Nat.le_of_ble_eq_true rfl⟩ (hS).1 (by decide) rfl (Nat.le_of_ble_eq_true rfl) ?_
  show Fx q_Mo_isAhead 5 sh 10 [some (.ref c), some (.int v1), some (.int v2)] [.int r2, .int r1] hp (some (.int res)) hp
  refine Fx.icmp_eq (22) 32 13 (by decide +kernel) (fun b3 => ?_) (fun b3 => ?_)
  · replace hf := ifp b3 hf
    refine Fx.run [(.iload_n 1, 1, 1, 0, .null)] 33 (by decide +kernel) ?_
    show Fx q_Mo_isAhead 5 sh 33 [some (.ref c), some (.int v1), some (.int v2)] [.int v1] hp (some (.int res)) hp
    replace hf := bnd hf
    obtain ⟨r4, hr4, hf⟩ := hf
    refine Fx.callS (rr := (some (.int r4))) (hp1 := hp) [.int v1] [] lk_9_111 (by decide +kernel) (t_Mo_isStart sh hp v1 r4 hr4) ⟨Nat.le_of_ble_eq_true rfl, Nat.le_of_ble_eq_true rfl⟩ rfl (Nat.le_of_ble_eq_true rfl) ?_
    show Fx q_Mo_isAhead 5 sh 36 [some (.ref c), some (.int v1), some (.int v2)] [.int r4] hp (some (.int res)) hp
    refine Fx.run [(.iload_n 2, 1, 2, 0, .null)] 37 (by decide +kernel) ?_
    show Fx q_Mo_isAhead 5 sh 37 [some (.ref c), some (.int v1), some (.int v2)] [.int v2, .int r4] hp (some (.int res)) hp
    replace hf := bnd hf
    obtain ⟨r5, hr5, hf⟩ := hf
    refine Fx.callS (rr := (some (.int r5))) (hp1 := hp) [.int v2] [.int r4] lk_9_111 (by decide +kernel) (t_Mo_isStart sh hp v2 r5 hr5) ⟨Nat.le_of_ble_eq_true rfl, Nat.le_of_ble_eq_true rfl⟩ rfl (Nat.le_of_ble_eq_true rfl) ?_
    show Fx q_Mo_isAhead 5 sh 40 [some (.ref c), some (.int v1), some (.int v2)] [.int r5, .int r4] hp (some (.int res)) hp
    refine Fx.icmp_eq (8) 48 43 (by decide +kernel) (fun b6 => ?_) (fun b6 => ?_)
    · replace hf := ifp b6 hf
      refine Fx.run [(.iload_n 1, 1, 1, 0, .null), (.iconst 2, 1, 0, 0, .int 2), (.idiv, 1, 0, 0, .null), (.iload_n 2, 1, 2, 0, .null), (.iconst 2, 1, 0, 0, .int 2), (.idiv, 1, 0, 0, .null)] 54 (by decide +kernel) ?_
      show ¬ (2 : Int32) = 0 ∧ ¬ (2 : Int32) = 0 ∧ Fx q_Mo_isAhead 5 sh 54 [some (.ref c), some (.int v1), some (.int v2)] [.int (v2 / 2), .int (v1 / 2)] hp (some (.int res)) hp
      refine ⟨(by decide), (by decide), ?_⟩
      refine Fx.icmp_ge (7) 61 57 (by decide +kernel) (fun b7 => ?_) (fun b7 => ?_)
      · replace hf := ifp b7 hf
        refine Fx.run [(.iconst 0, 1, 0, 0, .int 0)] 62 (by decide +kernel) ?_
        show Fx q_Mo_isAhead 5 sh 62 [some (.ref c), some (.int v1), some (.int v2)] [.int 0] hp (some (.int res)) hp
        obtain rfl := Option.some.inj hf
        have hk : 0 = res := hk
        subst hk
        exact Fx.zret (by decide +kernel) rfl (Or.inl rfl)
      · replace hf := ifn b7 hf
        refine Fx.run [(.iconst 1, 1, 0, 0, .int 1)] 58 (by decide +kernel) ?_
        show Fx q_Mo_isAhead 5 sh 58 [some (.ref c), some (.int v1), some (.int v2)] [.int 1] hp (some (.int res)) hp
        refine Fx.goto (4) 62 (by decide +kernel) ?_
        obtain rfl := Option.some.inj hf
        have hk : 1 = res := hk
        subst hk
        exact Fx.zret (by decide +kernel) rfl (Or.inr rfl)
    · replace hf := ifn b6 hf
      refine Fx.run [(.iload_n 2, 1, 2, 0, .null)] 44 (by decide +kernel) ?_
      show Fx q_Mo_isAhead 5 sh 44 [some (.ref c), some (.int v1), some (.int v2)] [.int v2] hp (some (.int res)) hp
      replace hf := bnd hf
      obtain ⟨r8, hr8, hf⟩ := hf
      refine Fx.callS (rr := (some (.int r8))) (hp1 := hp) [.int v2] [] lk_9_111 (by decide +kernel) (t_Mo_isStart sh hp v2 r8 hr8) ⟨Nat.le_of_ble_eq_true rfl, Nat.le_of_ble_eq_true rfl⟩ rfl (Nat.le_of_ble_eq_true rfl) ?_
      show Fx q_Mo_isAhead 5 sh 47 [some (.ref c), some (.int v1), some (.int v2)] [.int r8] hp (some (.int res)) hp
      replace hf := gd hf
      obtain ⟨g9, hf⟩ := hf
      obtain rfl := Option.some.inj hf
      have hk : r8 = res := hk
      subst hk
      exact Fx.zret (by decide +kernel) rfl g9
  · replace hf := ifn b3 hf
    refine Fx.run [(.aload_n 0, 1, 0, 0, .null), (.iload_n 1, 1, 1, 0, .null)] 15 (by decide +kernel) ?_
    show Fx q_Mo_isAhead 5 sh 15 [some (.ref c), some (.int v1), some (.int v2)] [.int v1, .ref c] hp (some (.int res)) hp
    replace hf := bnd hf
    obtain ⟨r10, hr10, hf⟩ := hf
    refine Fx.callV (rr := (some (.int r10))) (hp1 := hp) [.int v1] [] lk_9_121 (by decide +kernel) (t_Mo_placeOf sh c (hS) hp v1 r10 hr10) ⟨Nat.le_of_ble_eq_true rfl, Nat.le_of_ble_eq_true rfl⟩ (hS).1 (by decide) rfl (Nat.le_of_ble_eq_true rfl) ?_
    show Fx q_Mo_isAhead 5 sh 18 [some (.ref c), some (.int v1), some (.int v2)] [.int r10] hp (some (.int res)) hp
    refine Fx.run [(.aload_n 0, 1, 0, 0, .null), (.iload_n 2, 1, 2, 0, .null)] 20 (by decide +kernel) ?_
    show Fx q_Mo_isAhead 5 sh 20 [some (.ref c), some (.int v1), some (.int v2)] [.int v2, .ref c, .int r10] hp (some (.int res)) hp
    replace hf := bnd hf
    obtain ⟨r11, hr11, hf⟩ := hf
    refine Fx.callV (rr := (some (.int r11))) (hp1 := hp) [.int v2] [.int r10] lk_9_121 (by decide +kernel) (t_Mo_placeOf sh c (hS) hp v2 r11 hr11) ⟨Nat.le_of_ble_eq_true rfl, Nat.le_of_ble_eq_true rfl⟩ (hS).1 (by decide) rfl (Nat.le_of_ble_eq_true rfl) ?_
    show Fx q_Mo_isAhead 5 sh 23 [some (.ref c), some (.int v1), some (.int v2)] [.int r11, .int r10] hp (some (.int res)) hp
    refine Fx.icmp_ge (7) 30 26 (by decide +kernel) (fun b12 => ?_) (fun b12 => ?_)
    · replace hf := ifp b12 hf
      refine Fx.run [(.iconst 0, 1, 0, 0, .int 0)] 31 (by decide +kernel) ?_
      show Fx q_Mo_isAhead 5 sh 31 [some (.ref c), some (.int v1), some (.int v2)] [.int 0] hp (some (.int res)) hp
      obtain rfl := Option.some.inj hf
      have hk : 0 = res := hk
      subst hk
      exact Fx.zret (by decide +kernel) rfl (Or.inl rfl)
    · replace hf := ifn b12 hf
      refine Fx.run [(.iconst 1, 1, 0, 0, .int 1)] 27 (by decide +kernel) ?_
      show Fx q_Mo_isAhead 5 sh 27 [some (.ref c), some (.int v1), some (.int v2)] [.int 1] hp (some (.int res)) hp
      refine Fx.goto (4) 31 (by decide +kernel) ?_
      obtain rfl := Option.some.inj hf
      have hk : 1 = res := hk
      subst hk
      exact Fx.zret (by decide +kernel) rfl (Or.inr rfl)
abbrev P_Mo_enters_21 (sh : Shp) (c : Nat) (v1 : Int32) (res : HP) : (HP × Int32) → Prop := fun s => Fx q_Mo_enters 6 sh 21 [some (.ref c), some (.int v1), some (.int s.2)] [] s.1 none res
set_option maxHeartbeats 4000000 in
set_option maxRecDepth 20000 in
theorem t_Mo_enters_l21 (sh : Shp) (c : Nat) (hS : S_Mo sh c) (hp : HP) (v1 : Int32) (res : HP) : ∀ (s : (HP × Int32)) (t : HP), f_Mo_enters_l21 c hp v1 s = some t → (fun v => v = res) t → P_Mo_enters_21 sh c v1 res s := by
  refine loop_ind (P_Mo_enters_21 sh c v1 res) (fun v => v = res) ?_
  intro s t hf hk
  obtain ⟨hp, v2⟩ := s
  replace hf : f_Mo_enters_b21 c hp v1 v2 = some t := hf
  show Fx q_Mo_enters 6 sh 21 [some (.ref c), some (.int v1), some (.int v2)] [] hp none res
  unfold f_Mo_enters_b21 at hf
  refine Fx.run [(.iload_n 2, 1, 2, 0, .null)] 22 (by decide +kernel) ?_
  show Fx q_Mo_enters 6 sh 22 [some (.ref c), some (.int v1), some (.int v2)] [.int v2] hp none res
  refine Fx.if_le (51) 73 25 (by decide +kernel) (fun b1 => ?_) (fun b1 => ?_)
  · replace hf := ifp b1 hf
    replace hf := mpd hf
    obtain ⟨t, hf, rfl⟩ := hf
    replace hf := gd hf
    obtain ⟨g2, hf⟩ := hf
    refine Fx.run [(.aload_n 0, 1, 0, 0, .null), (.getfield 9, 3, 9, 0, .ref 1), (.sipush 621, 3, 0, 0, .int 621), (.iload_n 2, 1, 2, 0, .null), (.iadd, 1, 0, 0, .null), (.iload_n 1, 1, 1, 0, .null), (.iastore, 1, 4100, 0, .null)] 84 (by decide +kernel) ?_
    show isK sh c 9 ∧ (isA sh (c + 1) 10 4100 ∧ inb (621 + v2) 4100) ∧ Fx q_Mo_enters 6 sh 84 [some (.ref c), some (.int v1), some (.int v2)] [] (upI hp (c + 1) (ix (621 + v2)) v1) none res
    refine ⟨hS.1, ⟨hS.2.1, g2⟩, ?_⟩
    obtain rfl := Option.some.inj hf
    have hk : (upI hp (c + 1) (ix (621 + v2)) v1) = res := hk
    subst hk
    exact Fx.vret (by decide +kernel) rfl
  · replace hf := ifn b1 hf
    replace hf := gd hf
    obtain ⟨g3, hf⟩ := hf
    refine Fx.run [(.aload_n 0, 1, 0, 0, .null), (.iload_n 1, 1, 1, 0, .null), (.aload_n 0, 1, 0, 0, .null), (.getfield 9, 3, 9, 0, .ref 1), (.sipush 621, 3, 0, 0, .int 621), (.iload_n 2, 1, 2, 0, .null), (.iadd, 1, 0, 0, .null), (.iconst 1, 1, 0, 0, .int 1), (.isub, 1, 0, 0, .null), (.iaload, 1, 4100, 0, .null)] 39 (by decide +kernel) ?_
    show isK sh c 9 ∧ (isA sh (c + 1) 10 4100 ∧ inb ((621 + v2) - 1) 4100) ∧ Fx q_Mo_enters 6 sh 39 [some (.ref c), some (.int v1), some (.int v2)] [.int (hp.1 (c + 1) (ix ((621 + v2) - 1))), .int v1, .ref c] hp none res
    refine ⟨hS.1, ⟨hS.2.1, g3⟩, ?_⟩
    replace hf := bnd hf
    obtain ⟨r4, hr4, hf⟩ := hf
    refine Fx.callV (rr := (some (.int r4))) (hp1 := hp) [.int v1, .int (hp.1 (c + 1) (ix ((621 + v2) - 1)))] [] lk_9_124 (by decide +kernel) (t_Mo_isAhead sh c (hS) hp v1 (hp.1 (c + 1) (ix ((621 + v2) - 1))) r4 hr4) ⟨Nat.le_of_ble_eq_true rfl, Nat.le_of_ble_eq_true rfl⟩ (hS).1 (by decide) rfl (Nat.le_of_ble_eq_true rfl) ?_
    show Fx q_Mo_enters 6 sh 42 [some (.ref c), some (.int v1), some (.int v2)] [.int r4] hp none res
    refine Fx.if_eq (31) 73 45 (by decide +kernel) (fun b5 => ?_) (fun b5 => ?_)
    · replace hf := ifp b5 hf
      replace hf := mpd hf
      obtain ⟨t, hf, rfl⟩ := hf
      replace hf := gd hf
      obtain ⟨g6, hf⟩ := hf
      refine Fx.run [(.aload_n 0, 1, 0, 0, .null), (.getfield 9, 3, 9, 0, .ref 1), (.sipush 621, 3, 0, 0, .int 621), (.iload_n 2, 1, 2, 0, .null), (.iadd, 1, 0, 0, .null), (.iload_n 1, 1, 1, 0, .null), (.iastore, 1, 4100, 0, .null)] 84 (by decide +kernel) ?_
      show isK sh c 9 ∧ (isA sh (c + 1) 10 4100 ∧ inb (621 + v2) 4100) ∧ Fx q_Mo_enters 6 sh 84 [some (.ref c), some (.int v1), some (.int v2)] [] (upI hp (c + 1) (ix (621 + v2)) v1) none res
      refine ⟨hS.1, ⟨hS.2.1, g6⟩, ?_⟩
      obtain rfl := Option.some.inj hf
      have hk : (upI hp (c + 1) (ix (621 + v2)) v1) = res := hk
      subst hk
      exact Fx.vret (by decide +kernel) rfl
    · replace hf := ifn b5 hf
      replace hf := gd hf
      obtain ⟨g7, hf⟩ := hf
      replace hf := gd hf
      obtain ⟨g8, hf⟩ := hf
      refine Fx.run [(.aload_n 0, 1, 0, 0, .null), (.getfield 9, 3, 9, 0, .ref 1), (.sipush 621, 3, 0, 0, .int 621), (.iload_n 2, 1, 2, 0, .null), (.iadd, 1, 0, 0, .null), (.aload_n 0, 1, 0, 0, .null), (.getfield 9, 3, 9, 0, .ref 1), (.sipush 621, 3, 0, 0, .int 621), (.iload_n 2, 1, 2, 0, .null), (.iadd, 1, 0, 0, .null), (.iconst 1, 1, 0, 0, .int 1), (.isub, 1, 0, 0, .null), (.iaload, 1, 4100, 0, .null), (.iastore, 1, 4100, 0, .null), (.iinc 2 (-1), 3, 2, 0, .int (-1))] 70 (by decide +kernel) ?_
      show isK sh c 9 ∧ isK sh c 9 ∧ (isA sh (c + 1) 10 4100 ∧ inb ((621 + v2) - 1) 4100) ∧ (isA sh (c + 1) 10 4100 ∧ inb (621 + v2) 4100) ∧ Fx q_Mo_enters 6 sh 70 [some (.ref c), some (.int v1), some (.int (v2 + (-1)))] [] (upI hp (c + 1) (ix (621 + v2)) (hp.1 (c + 1) (ix ((621 + v2) - 1)))) none res
      refine ⟨hS.1, hS.1, ⟨hS.2.1, g7⟩, ⟨hS.2.1, g8⟩, ?_⟩
      refine Fx.goto (-49) 21 (by decide +kernel) ?_
      obtain rfl := Option.some.inj hf
      have hk : Fx q_Mo_enters 6 sh 21 [some (.ref c), some (.int v1), some (.int (v2 + (-1)))] [] (upI hp (c + 1) (ix (621 + v2)) (hp.1 (c + 1) (ix ((621 + v2) - 1)))) none res := hk
      exact Fx.le hk (And.intro rfl (And.intro rfl (And.intro rfl trivial)))
set_option maxHeartbeats 4000000 in
set_option maxRecDepth 20000 in
theorem t_Mo_enters (sh : Shp) (c : Nat) (hS : S_Mo sh c) (hp : HP) (v1 : Int32) (res : HP) (hf : f_Mo_enters c hp v1 = some res) : Ex 6 q_Mo_enters sh [.ref c, .int v1] hp none res := by
  refine Ex.of [some (.ref c), some (.int v1), none] rfl (Nat.le_of_ble_eq_true rfl) (by decide +kernel) rfl ?_
  obtain ⟨t, hk⟩ : ∃ t, t = res := ⟨res, rfl⟩
  rw [← hk] at hf
  unfold f_Mo_enters at hf
  refine Fx.run [(.aload_n 0, 1, 0, 0, .null), (.getfield 9, 3, 9, 0, .ref 1), (.sipush 616, 3, 0, 0, .int 616), (.iaload, 1, 4100, 0, .null), (.istore_n 2, 1, 2, 0, .null), (.aload_n 0, 1, 0, 0, .null), (.getfield 9, 3, 9, 0, .ref 1), (.sipush 616, 3, 0, 0, .int 616), (.dup2, 1, 0, 0, .null), (.iaload, 1, 4100, 0, .null), (.iconst 1, 1, 0, 0, .int 1), (.iadd, 1, 0, 0, .null), (.iastore, 1, 4100, 0, .null)] 21 (by decide +kernel) ?_
  show isK sh c 9 ∧ (isA sh (c + 1) 10 4100 ∧ inb 616 4100) ∧ isK sh c 9 ∧ (isA sh (c + 1) 10 4100 ∧ inb 616 4100) ∧ (isA sh (c + 1) 10 4100 ∧ inb 616 4100) ∧ Fx q_Mo_enters 6 sh 21 [some (.ref c), some (.int v1), some (.int (hp.1 (c + 1) (ix 616)))] [] (upI hp (c + 1) (ix 616) ((hp.1 (c + 1) (ix 616)) + 1)) none res
  refine ⟨hS.1, ⟨hS.2.1, (by decide)⟩, hS.1, ⟨hS.2.1, (by decide)⟩, ⟨hS.2.1, (by decide)⟩, ?_⟩
  have hl := t_Mo_enters_l21 sh c hS (upI hp (c + 1) (ix 616) ((hp.1 (c + 1) (ix 616)) + 1)) v1 res ((upI hp (c + 1) (ix 616) ((hp.1 (c + 1) (ix 616)) + 1)), (hp.1 (c + 1) (ix 616))) _ hf hk
  have hl : Fx q_Mo_enters 6 sh 21 [some (.ref c), some (.int v1), some (.int (hp.1 (c + 1) (ix 616)))] [] (upI hp (c + 1) (ix 616) ((hp.1 (c + 1) (ix 616)) + 1)) none res := hl
  exact Fx.le hl (And.intro rfl (And.intro rfl (And.intro rfl trivial)))
abbrev P_Mo_heads_11 (sh : Shp) (c : Nat) (hp : HP)  (res : Int32) : (Int32 × Int32) → Prop := fun s => Fx q_Mo_heads 3 sh 11 [some (.ref c), some (.int s.1), some (.int s.2), none] [] hp (some (.int res)) hp
abbrev P_Mo_heads_76 (sh : Shp) (c : Nat) (hp : HP) (v1 : Int32) (res : Int32) : (Int32 × Int32) → Prop := fun s => Fx q_Mo_heads 3 sh 76 [some (.ref c), some (.int v1), some (.int s.1), some (.int s.2)] [] hp (some (.int res)) hp
set_option maxHeartbeats 4000000 in
set_option maxRecDepth 20000 in
theorem t_Mo_heads_l76 (sh : Shp) (c : Nat) (hS : S_Mo sh c) (hp : HP) (v1 : Int32) (res : Int32) : ∀ (s : (Int32 × Int32)) (t : Int32), f_Mo_heads_l76 c hp v1 s = some t → (fun v => v = res) t → P_Mo_heads_76 sh c hp v1 res s := by
  refine loop_ind (P_Mo_heads_76 sh c hp v1 res) (fun v => v = res) ?_
  intro s t hf hk
  obtain ⟨v2, v3⟩ := s
  replace hf : f_Mo_heads_b76 c hp v1 v2 v3 = some t := hf
  show Fx q_Mo_heads 3 sh 76 [some (.ref c), some (.int v1), some (.int v2), some (.int v3)] [] hp (some (.int res)) hp
  unfold f_Mo_heads_b76 at hf
  refine Fx.run [(.iload_n 3, 1, 3, 0, .null), (.bipush 8, 2, 0, 0, .int 8)] 79 (by decide +kernel) ?_
  show Fx q_Mo_heads 3 sh 79 [some (.ref c), some (.int v1), some (.int v2), some (.int v3)] [.int 8, .int v3] hp (some (.int res)) hp
  refine Fx.icmp_ge (17) 96 82 (by decide +kernel) (fun b2 => ?_) (fun b2 => ?_)
  · replace hf := ifp b2 hf
    replace hf := mpd hf
    obtain ⟨t, hf, rfl⟩ := hf
    refine Fx.run [(.iload_n 2, 1, 2, 0, .null)] 97 (by decide +kernel) ?_
    show Fx q_Mo_heads 3 sh 97 [some (.ref c), some (.int v1), some (.int v2), some (.int v3)] [.int v2] hp (some (.int res)) hp
    obtain rfl := Option.some.inj hf
    have hk : v2 = res := hk
    subst hk
    exact Fx.iret (by decide +kernel) rfl
  · replace hf := ifn b2 hf
    refine Fx.run [(.iload_n 2, 1, 2, 0, .null), (.iload_n 1, 1, 1, 0, .null), (.iload_n 3, 1, 3, 0, .null), (.ishr, 1, 0, 0, .null), (.iconst 1, 1, 0, 0, .int 1), (.iand, 1, 0, 0, .null), (.iadd, 1, 0, 0, .null), (.istore_n 2, 1, 2, 0, .null), (.iinc 3 1, 3, 3, 0, .int 1)] 93 (by decide +kernel) ?_
    show Fx q_Mo_heads 3 sh 93 [some (.ref c), some (.int v1), some (.int (v2 + ((v1 >>> (v3 &&& 31)) &&& 1))), some (.int (v3 + 1))] [] hp (some (.int res)) hp
    refine Fx.goto (-17) 76 (by decide +kernel) ?_
    obtain rfl := Option.some.inj hf
    have hk : Fx q_Mo_heads 3 sh 76 [some (.ref c), some (.int v1), some (.int (v2 + ((v1 >>> (v3 &&& 31)) &&& 1))), some (.int (v3 + 1))] [] hp (some (.int res)) hp := hk
    exact Fx.le hk (And.intro rfl (And.intro rfl (And.intro rfl (And.intro rfl trivial))))
set_option maxHeartbeats 4000000 in
set_option maxRecDepth 20000 in
theorem t_Mo_heads_l11 (sh : Shp) (c : Nat) (hS : S_Mo sh c) (hp : HP)  (res : Int32) : ∀ (s : (Int32 × Int32)) (t : Int32), f_Mo_heads_l11 c hp  s = some t → (fun v => v = res) t → P_Mo_heads_11 sh c hp  res s := by
  refine loop_ind (P_Mo_heads_11 sh c hp  res) (fun v => v = res) ?_
  intro s t hf hk
  obtain ⟨v1, v2⟩ := s
  replace hf : f_Mo_heads_b11 c hp  v1 v2 = some t := hf
  show Fx q_Mo_heads 3 sh 11 [some (.ref c), some (.int v1), some (.int v2), none] [] hp (some (.int res)) hp
  unfold f_Mo_heads_b11 at hf
  refine Fx.run [(.iload_n 2, 1, 2, 0, .null), (.aload_n 0, 1, 0, 0, .null), (.getfield 9, 3, 9, 0, .ref 1), (.sipush 616, 3, 0, 0, .int 616), (.iaload, 1, 4100, 0, .null)] 20 (by decide +kernel) ?_
  show isK sh c 9 ∧ (isA sh (c + 1) 10 4100 ∧ inb 616 4100) ∧ Fx q_Mo_heads 3 sh 20 [some (.ref c), some (.int v1), some (.int v2), none] [.int (hp.1 (c + 1) (ix 616)), .int v2] hp (some (.int res)) hp
  refine ⟨hS.1, ⟨hS.2.1, (by decide)⟩, ?_⟩
  refine Fx.icmp_ge (52) 72 23 (by decide +kernel) (fun b1 => ?_) (fun b1 => ?_)
  · replace hf := ifp b1 hf
    replace hf := mpd hf
    obtain ⟨t, hf, rfl⟩ := hf
    refine Fx.run [(.iconst 0, 1, 0, 0, .int 0), (.istore_n 2, 1, 2, 0, .null), (.iconst 0, 1, 0, 0, .int 0), (.istore_n 3, 1, 3, 0, .null)] 76 (by decide +kernel) ?_
    show Fx q_Mo_heads 3 sh 76 [some (.ref c), some (.int v1), some (.int 0), some (.int 0)] [] hp (some (.int res)) hp
    have hl := t_Mo_heads_l76 sh c hS hp v1 res (0, 0) _ hf hk
    have hl : Fx q_Mo_heads 3 sh 76 [some (.ref c), some (.int v1), some (.int 0), some (.int 0)] [] hp (some (.int res)) hp := hl
    exact Fx.le hl (And.intro rfl (And.intro rfl (And.intro rfl (And.intro rfl trivial))))
  · replace hf := ifn b1 hf
    replace hf := gd hf
    obtain ⟨g3, hf⟩ := hf
    refine Fx.run [(.aload_n 0, 1, 0, 0, .null), (.getfield 9, 3, 9, 0, .ref 1), (.sipush 621, 3, 0, 0, .int 621), (.iload_n 2, 1, 2, 0, .null), (.iadd, 1, 0, 0, .null), (.iaload, 1, 4100, 0, .null), (.istore_n 3, 1, 3, 0, .null), (.iload_n 3, 1, 3, 0, .null)] 35 (by decide +kernel) ?_
    show isK sh c 9 ∧ (isA sh (c + 1) 10 4100 ∧ inb (621 + v2) 4100) ∧ Fx q_Mo_heads 3 sh 35 [some (.ref c), some (.int v1), some (.int v2), some (.int (hp.1 (c + 1) (ix (621 + v2))))] [.int (hp.1 (c + 1) (ix (621 + v2)))] hp (some (.int res)) hp
    refine ⟨hS.1, ⟨hS.2.1, g3⟩, ?_⟩
    replace hf := bnd hf
    obtain ⟨r4, hr4, hf⟩ := hf
    refine Fx.callS (rr := (some (.int r4))) (hp1 := hp) [.int (hp.1 (c + 1) (ix (621 + v2)))] [] lk_9_111 (by decide +kernel) (t_Mo_isStart sh hp (hp.1 (c + 1) (ix (621 + v2))) r4 hr4) ⟨Nat.le_of_ble_eq_true rfl, Nat.le_of_ble_eq_true rfl⟩ rfl (Nat.le_of_ble_eq_true rfl) ?_
    show Fx q_Mo_heads 3 sh 38 [some (.ref c), some (.int v1), some (.int v2), some (.int (hp.1 (c + 1) (ix (621 + v2))))] [.int r4] hp (some (.int res)) hp
    refine Fx.if_eq (28) 66 41 (by decide +kernel) (fun b5 => ?_) (fun b5 => ?_)
    · replace hf := ifp b5 hf
      refine Fx.run [(.iinc 2 1, 3, 2, 0, .int 1)] 69 (by decide +kernel) ?_
      show Fx q_Mo_heads 3 sh 69 [some (.ref c), some (.int v1), some (.int (v2 + 1)), some (.int (hp.1 (c + 1) (ix (621 + v2))))] [] hp (some (.int res)) hp
      refine Fx.goto (-58) 11 (by decide +kernel) ?_
      obtain rfl := Option.some.inj hf
      have hk : Fx q_Mo_heads 3 sh 11 [some (.ref c), some (.int v1), some (.int (v2 + 1)), none] [] hp (some (.int res)) hp := hk
      exact Fx.le hk (And.intro rfl (And.intro rfl (And.intro rfl trivial)))
    · replace hf := ifn b5 hf
      refine Fx.run [(.iload_n 1, 1, 1, 0, .null), (.iconst 1, 1, 0, 0, .int 1), (.iconst 4, 1, 0, 0, .int 4), (.iload_n 3, 1, 3, 0, .null)] 45 (by decide +kernel) ?_
      show Fx q_Mo_heads 3 sh 45 [some (.ref c), some (.int v1), some (.int v2), some (.int (hp.1 (c + 1) (ix (621 + v2))))] [.int (hp.1 (c + 1) (ix (621 + v2))), .int 4, .int 1, .int v1] hp (some (.int res)) hp
      replace hf := bnd hf
      obtain ⟨r6, hr6, hf⟩ := hf
      refine Fx.callS (rr := (some (.int r6))) (hp1 := hp) [.int (hp.1 (c + 1) (ix (621 + v2)))] [.int 4, .int 1, .int v1] lk_9_114 (by decide +kernel) (t_Mo_sideOf sh hp (hp.1 (c + 1) (ix (621 + v2))) r6 hr6) ⟨Nat.le_of_ble_eq_true rfl, Nat.le_of_ble_eq_true rfl⟩ rfl (Nat.le_of_ble_eq_true rfl) ?_
      show Fx q_Mo_heads 3 sh 48 [some (.ref c), some (.int v1), some (.int v2), some (.int (hp.1 (c + 1) (ix (621 + v2))))] [.int r6, .int 4, .int 1, .int v1] hp (some (.int res)) hp
      refine Fx.run [(.imul, 1, 0, 0, .null), (.aload_n 0, 1, 0, 0, .null), (.iload_n 3, 1, 3, 0, .null)] 51 (by decide +kernel) ?_
      show Fx q_Mo_heads 3 sh 51 [some (.ref c), some (.int v1), some (.int v2), some (.int (hp.1 (c + 1) (ix (621 + v2))))] [.int (hp.1 (c + 1) (ix (621 + v2))), .ref c, .int (4 * r6), .int 1, .int v1] hp (some (.int res)) hp
      replace hf := bnd hf
      obtain ⟨r7, hr7, hf⟩ := hf
      refine Fx.callS (rr := (some (.int r7))) (hp1 := hp) [.int (hp.1 (c + 1) (ix (621 + v2)))] [.ref c, .int (4 * r6), .int 1, .int v1] lk_9_114 (by decide +kernel) (t_Mo_sideOf sh hp (hp.1 (c + 1) (ix (621 + v2))) r7 hr7) ⟨Nat.le_of_ble_eq_true rfl, Nat.le_of_ble_eq_true rfl⟩ rfl (Nat.le_of_ble_eq_true rfl) ?_
      show Fx q_Mo_heads 3 sh 54 [some (.ref c), some (.int v1), some (.int v2), some (.int (hp.1 (c + 1) (ix (621 + v2))))] [.int r7, .ref c, .int (4 * r6), .int 1, .int v1] hp (some (.int res)) hp
      refine Fx.run [(.iload_n 3, 1, 3, 0, .null)] 55 (by decide +kernel) ?_
      show Fx q_Mo_heads 3 sh 55 [some (.ref c), some (.int v1), some (.int v2), some (.int (hp.1 (c + 1) (ix (621 + v2))))] [.int (hp.1 (c + 1) (ix (621 + v2))), .int r7, .ref c, .int (4 * r6), .int 1, .int v1] hp (some (.int res)) hp
      replace hf := bnd hf
      obtain ⟨r8, hr8, hf⟩ := hf
      refine Fx.callS (rr := (some (.int r8))) (hp1 := hp) [.int (hp.1 (c + 1) (ix (621 + v2)))] [.int r7, .ref c, .int (4 * r6), .int 1, .int v1] lk_9_118 (by decide +kernel) (t_Mo_rowOf sh hp (hp.1 (c + 1) (ix (621 + v2))) r8 hr8) ⟨Nat.le_of_ble_eq_true rfl, Nat.le_of_ble_eq_true rfl⟩ rfl (Nat.le_of_ble_eq_true rfl) ?_
      show Fx q_Mo_heads 3 sh 58 [some (.ref c), some (.int v1), some (.int v2), some (.int (hp.1 (c + 1) (ix (621 + v2))))] [.int r8, .int r7, .ref c, .int (4 * r6), .int 1, .int v1] hp (some (.int res)) hp
      refine Fx.run [(.iconst 0, 1, 0, 0, .int 0)] 59 (by decide +kernel) ?_
      show Fx q_Mo_heads 3 sh 59 [some (.ref c), some (.int v1), some (.int v2), some (.int (hp.1 (c + 1) (ix (621 + v2))))] [.int 0, .int r8, .int r7, .ref c, .int (4 * r6), .int 1, .int v1] hp (some (.int res)) hp
      replace hf := bnd hf
      obtain ⟨r9, hr9, hf⟩ := hf
      refine Fx.callV (rr := (some (.int r9))) (hp1 := hp) [.int r7, .int r8, .int 0] [.int (4 * r6), .int 1, .int v1] lk_9_44 (by decide +kernel) (t_Mo_of sh c (hS) hp r7 r8 0 r9 hr9) ⟨Nat.le_of_ble_eq_true rfl, Nat.le_of_ble_eq_true rfl⟩ (hS).1 (by decide) rfl (Nat.le_of_ble_eq_true rfl) ?_
      show Fx q_Mo_heads 3 sh 62 [some (.ref c), some (.int v1), some (.int v2), some (.int (hp.1 (c + 1) (ix (621 + v2))))] [.int r9, .int (4 * r6), .int 1, .int v1] hp (some (.int res)) hp
      refine Fx.run [(.iadd, 1, 0, 0, .null), (.ishl, 1, 0, 0, .null), (.ior, 1, 0, 0, .null), (.istore_n 1, 1, 1, 0, .null), (.iinc 2 1, 3, 2, 0, .int 1)] 69 (by decide +kernel) ?_
      show Fx q_Mo_heads 3 sh 69 [some (.ref c), some (.int (v1 ||| (1 <<< (((4 * r6) + r9) &&& 31)))), some (.int (v2 + 1)), some (.int (hp.1 (c + 1) (ix (621 + v2))))] [] hp (some (.int res)) hp
      refine Fx.goto (-58) 11 (by decide +kernel) ?_
      obtain rfl := Option.some.inj hf
      have hk : Fx q_Mo_heads 3 sh 11 [some (.ref c), some (.int (v1 ||| (1 <<< (((4 * r6) + r9) &&& 31)))), some (.int (v2 + 1)), none] [] hp (some (.int res)) hp := hk
      exact Fx.le hk (And.intro rfl (And.intro rfl (And.intro rfl trivial)))
set_option maxHeartbeats 4000000 in
set_option maxRecDepth 20000 in
theorem t_Mo_heads (sh : Shp) (c : Nat) (hS : S_Mo sh c) (hp : HP)  (res : Int32) (hf : f_Mo_heads c hp  = some res) : Ex 3 q_Mo_heads sh [.ref c] hp (some (.int res)) hp := by
  refine Ex.of [some (.ref c), none, none, none] rfl (Nat.le_of_ble_eq_true rfl) (by decide +kernel) rfl ?_
  obtain ⟨t, hk⟩ : ∃ t, t = res := ⟨res, rfl⟩
  rw [← hk] at hf
  unfold f_Mo_heads at hf
  refine Fx.run [(.iconst 0, 1, 0, 0, .int 0), (.istore_n 1, 1, 1, 0, .null), (.aload_n 0, 1, 0, 0, .null), (.getfield 9, 3, 9, 0, .ref 1), (.sipush 615, 3, 0, 0, .int 615), (.iaload, 1, 4100, 0, .null), (.istore_n 2, 1, 2, 0, .null)] 11 (by decide +kernel) ?_
  show isK sh c 9 ∧ (isA sh (c + 1) 10 4100 ∧ inb 615 4100) ∧ Fx q_Mo_heads 3 sh 11 [some (.ref c), some (.int 0), some (.int (hp.1 (c + 1) (ix 615))), none] [] hp (some (.int res)) hp
  refine ⟨hS.1, ⟨hS.2.1, (by decide)⟩, ?_⟩
  have hl := t_Mo_heads_l11 sh c hS hp  res (0, (hp.1 (c + 1) (ix 615))) _ hf hk
  have hl : Fx q_Mo_heads 3 sh 11 [some (.ref c), some (.int 0), some (.int (hp.1 (c + 1) (ix 615))), none] [] hp (some (.int res)) hp := hl
  exact Fx.le hl (And.intro rfl (And.intro rfl (And.intro rfl trivial)))
set_option maxHeartbeats 4000000 in
set_option maxRecDepth 20000 in
theorem t_Mo_actives (sh : Shp) (c : Nat) (hS : S_Mo sh c) (hp : HP)  (res : Int32) (hf : f_Mo_actives c hp  = some res) : Ex 1 q_Mo_actives sh [.ref c] hp (some (.int res)) hp := by
  refine Ex.of [some (.ref c)] rfl (Nat.le_of_ble_eq_true rfl) (by decide +kernel) rfl ?_
  obtain ⟨t, hk⟩ : ∃ t, t = res := ⟨res, rfl⟩
  rw [← hk] at hf
  unfold f_Mo_actives at hf
  refine Fx.run [(.aload_n 0, 1, 0, 0, .null), (.getfield 9, 3, 9, 0, .ref 1), (.sipush 781, 3, 0, 0, .int 781), (.iaload, 1, 4100, 0, .null), (.aload_n 0, 1, 0, 0, .null), (.getfield 9, 3, 9, 0, .ref 1), (.sipush 782, 3, 0, 0, .int 782), (.iaload, 1, 4100, 0, .null), (.iadd, 1, 0, 0, .null)] 17 (by decide +kernel) ?_
  show isK sh c 9 ∧ (isA sh (c + 1) 10 4100 ∧ inb 781 4100) ∧ isK sh c 9 ∧ (isA sh (c + 1) 10 4100 ∧ inb 782 4100) ∧ Fx q_Mo_actives 1 sh 17 [some (.ref c)] [.int ((hp.1 (c + 1) (ix 781)) + (hp.1 (c + 1) (ix 782)))] hp (some (.int res)) hp
  refine ⟨hS.1, ⟨hS.2.1, (by decide)⟩, hS.1, ⟨hS.2.1, (by decide)⟩, ?_⟩
  obtain rfl := Option.some.inj hf
  have hk : ((hp.1 (c + 1) (ix 781)) + (hp.1 (c + 1) (ix 782))) = res := hk
  subst hk
  exact Fx.iret (by decide +kernel) rfl
set_option maxHeartbeats 4000000 in
set_option maxRecDepth 20000 in
theorem t_Mo_looksAtHeld (sh : Shp) (c : Nat) (hS : S_Mo sh c) (hp : HP)  (res : HP) (hf : f_Mo_looksAtHeld c hp  = some res) : Ex 4 q_Mo_looksAtHeld sh [.ref c] hp none res := by
  refine Ex.of [some (.ref c)] rfl (Nat.le_of_ble_eq_true rfl) (by decide +kernel) rfl ?_
  obtain ⟨t, hk⟩ : ∃ t, t = res := ⟨res, rfl⟩
  rw [← hk] at hf
  unfold f_Mo_looksAtHeld at hf
  refine Fx.run [(.aload_n 0, 1, 0, 0, .null), (.getfield 9, 3, 9, 0, .ref 1), (.sipush 617, 3, 0, 0, .int 617), (.aload_n 0, 1, 0, 0, .null), (.getfield 9, 3, 9, 0, .ref 1), (.sipush 617, 3, 0, 0, .int 617), (.iaload, 1, 4100, 0, .null), (.aload_n 0, 1, 0, 0, .null)] 16 (by decide +kernel) ?_
  show isK sh c 9 ∧ isK sh c 9 ∧ (isA sh (c + 1) 10 4100 ∧ inb 617 4100) ∧ Fx q_Mo_looksAtHeld 4 sh 16 [some (.ref c)] [.ref c, .int (hp.1 (c + 1) (ix 617)), .int 617, .ref (c + 1)] hp none res
  refine ⟨hS.1, hS.1, ⟨hS.2.1, (by decide)⟩, ?_⟩
  replace hf := bnd hf
  obtain ⟨r1, hr1, hf⟩ := hf
  refine Fx.callV (rr := (some (.int r1))) (hp1 := hp) [] [.int (hp.1 (c + 1) (ix 617)), .int 617, .ref (c + 1)] lk_9_127 (by decide +kernel) (t_Mo_actives sh c (hS) hp r1 hr1) ⟨Nat.le_of_ble_eq_true rfl, Nat.le_of_ble_eq_true rfl⟩ (hS).1 (by decide) rfl (Nat.le_of_ble_eq_true rfl) ?_
  show Fx q_Mo_looksAtHeld 4 sh 19 [some (.ref c)] [.int r1, .int (hp.1 (c + 1) (ix 617)), .int 617, .ref (c + 1)] hp none res
  refine Fx.run [(.aload_n 0, 1, 0, 0, .null)] 20 (by decide +kernel) ?_
  show Fx q_Mo_looksAtHeld 4 sh 20 [some (.ref c)] [.ref c, .int r1, .int (hp.1 (c + 1) (ix 617)), .int 617, .ref (c + 1)] hp none res
  replace hf := bnd hf
  obtain ⟨r2, hr2, hf⟩ := hf
  refine Fx.callV (rr := (some (.int r2))) (hp1 := hp) [] [.int r1, .int (hp.1 (c + 1) (ix 617)), .int 617, .ref (c + 1)] lk_9_130 (by decide +kernel) (t_Mo_heads sh c (hS) hp r2 hr2) ⟨Nat.le_of_ble_eq_true rfl, Nat.le_of_ble_eq_true rfl⟩ (hS).1 (by decide) rfl (Nat.le_of_ble_eq_true rfl) ?_
  show Fx q_Mo_looksAtHeld 4 sh 23 [some (.ref c)] [.int r2, .int r1, .int (hp.1 (c + 1) (ix 617)), .int 617, .ref (c + 1)] hp none res
  refine Fx.run [(.iadd, 1, 0, 0, .null)] 24 (by decide +kernel) ?_
  show Fx q_Mo_looksAtHeld 4 sh 24 [some (.ref c)] [.int (r1 + r2), .int (hp.1 (c + 1) (ix 617)), .int 617, .ref (c + 1)] hp none res
  replace hf := bnd hf
  obtain ⟨r3, hr3, hf⟩ := hf
  refine Fx.callS (rr := (some (.int r3))) (hp1 := hp) [.int (hp.1 (c + 1) (ix 617)), .int (r1 + r2)] [.int 617, .ref (c + 1)] lk_9_133 (by decide +kernel) (t_Mo_more sh hp (hp.1 (c + 1) (ix 617)) (r1 + r2) r3 hr3) ⟨Nat.le_of_ble_eq_true rfl, Nat.le_of_ble_eq_true rfl⟩ rfl (Nat.le_of_ble_eq_true rfl) ?_
  show Fx q_Mo_looksAtHeld 4 sh 27 [some (.ref c)] [.int r3, .int 617, .ref (c + 1)] hp none res
  refine Fx.run [(.iastore, 1, 4100, 0, .null), (.aload_n 0, 1, 0, 0, .null), (.getfield 9, 3, 9, 0, .ref 1), (.sipush 618, 3, 0, 0, .int 618), (.aload_n 0, 1, 0, 0, .null), (.getfield 9, 3, 9, 0, .ref 1), (.sipush 618, 3, 0, 0, .int 618), (.iaload, 1, 4100, 0, .null), (.aload_n 0, 1, 0, 0, .null)] 44 (by decide +kernel) ?_
  show (isA sh (c + 1) 10 4100 ∧ inb 617 4100) ∧ isK sh c 9 ∧ isK sh c 9 ∧ (isA sh (c + 1) 10 4100 ∧ inb 618 4100) ∧ Fx q_Mo_looksAtHeld 4 sh 44 [some (.ref c)] [.ref c, .int ((upI hp (c + 1) (ix 617) r3).1 (c + 1) (ix 618)), .int 618, .ref (c + 1)] (upI hp (c + 1) (ix 617) r3) none res
  refine ⟨⟨hS.2.1, (by decide)⟩, hS.1, hS.1, ⟨hS.2.1, (by decide)⟩, ?_⟩
  replace hf := bnd hf
  obtain ⟨r4, hr4, hf⟩ := hf
  refine Fx.callV (rr := (some (.int r4))) (hp1 := (upI hp (c + 1) (ix 617) r3)) [] [.int ((upI hp (c + 1) (ix 617) r3).1 (c + 1) (ix 618)), .int 618, .ref (c + 1)] lk_9_127 (by decide +kernel) (t_Mo_actives sh c (hS) (upI hp (c + 1) (ix 617) r3) r4 hr4) ⟨Nat.le_of_ble_eq_true rfl, Nat.le_of_ble_eq_true rfl⟩ (hS).1 (by decide) rfl (Nat.le_of_ble_eq_true rfl) ?_
  show Fx q_Mo_looksAtHeld 4 sh 47 [some (.ref c)] [.int r4, .int ((upI hp (c + 1) (ix 617) r3).1 (c + 1) (ix 618)), .int 618, .ref (c + 1)] (upI hp (c + 1) (ix 617) r3) none res
  replace hf := bnd hf
  obtain ⟨r5, hr5, hf⟩ := hf
  refine Fx.callS (rr := (some (.int r5))) (hp1 := (upI hp (c + 1) (ix 617) r3)) [.int ((upI hp (c + 1) (ix 617) r3).1 (c + 1) (ix 618)), .int r4] [.int 618, .ref (c + 1)] lk_9_133 (by decide +kernel) (t_Mo_more sh (upI hp (c + 1) (ix 617) r3) ((upI hp (c + 1) (ix 617) r3).1 (c + 1) (ix 618)) r4 r5 hr5) ⟨Nat.le_of_ble_eq_true rfl, Nat.le_of_ble_eq_true rfl⟩ rfl (Nat.le_of_ble_eq_true rfl) ?_
  show Fx q_Mo_looksAtHeld 4 sh 50 [some (.ref c)] [.int r5, .int 618, .ref (c + 1)] (upI hp (c + 1) (ix 617) r3) none res
  refine Fx.run [(.iastore, 1, 4100, 0, .null)] 51 (by decide +kernel) ?_
  show (isA sh (c + 1) 10 4100 ∧ inb 618 4100) ∧ Fx q_Mo_looksAtHeld 4 sh 51 [some (.ref c)] [] (upI (upI hp (c + 1) (ix 617) r3) (c + 1) (ix 618) r5) none res
  refine ⟨⟨hS.2.1, (by decide)⟩, ?_⟩
  obtain rfl := Option.some.inj hf
  have hk : (upI (upI hp (c + 1) (ix 617) r3) (c + 1) (ix 618) r5) = res := hk
  subst hk
  exact Fx.vret (by decide +kernel) rfl
abbrev P_Mo_sweep_36 (sh : Shp) (c : Nat)  (res : (HP × Int32)) : (HP × Int32) → Prop := fun s => Fx q_Mo_sweep 7 sh 36 [some (.ref c), some (.int s.2), none] [] s.1 (some (.int res.2)) res.1
abbrev P_Mo_sweep_67 (sh : Shp) (c : Nat)  (res : (HP × Int32)) : (HP × Int32) → Prop := fun s => Fx q_Mo_sweep 7 sh 67 [some (.ref c), some (.int s.2), none] [] s.1 (some (.int res.2)) res.1
abbrev P_Mo_sweep_85 (sh : Shp) (c : Nat) (v1 : Int32) (res : (HP × Int32)) : (HP × Int32) → Prop := fun s => Fx q_Mo_sweep 7 sh 85 [some (.ref c), some (.int v1), some (.int s.2)] [] s.1 (some (.int res.2)) res.1
set_option maxHeartbeats 4000000 in
set_option maxRecDepth 20000 in
theorem t_Mo_sweep_l85 (sh : Shp) (c : Nat) (hS : S_Mo sh c) (hp : HP) (v1 : Int32) (res : (HP × Int32)) : ∀ (s : (HP × Int32)) (t : ((HP × Int32) ⊕ (HP × Int32))), f_Mo_sweep_l85 c hp v1 s = some t → (Kel (P_Mo_sweep_67 sh c  res) (fun v => v = res)) t → P_Mo_sweep_85 sh c v1 res s := by
  refine loop_ind (P_Mo_sweep_85 sh c v1 res) (Kel (P_Mo_sweep_67 sh c  res) (fun v => v = res)) ?_
  intro s t hf hk
  obtain ⟨hp, v2⟩ := s
  replace hf : f_Mo_sweep_b85 c hp v1 v2 = some t := hf
  show Fx q_Mo_sweep 7 sh 85 [some (.ref c), some (.int v1), some (.int v2)] [] hp (some (.int res.2)) res.1
  unfold f_Mo_sweep_b85 at hf
  replace hf := gd hf
  obtain ⟨g9, hf⟩ := hf
  refine Fx.run [(.iload_n 2, 1, 2, 0, .null), (.aload_n 0, 1, 0, 0, .null), (.getfield 9, 3, 9, 0, .ref 1), (.iconst 2, 1, 0, 0, .int 2), (.iload_n 1, 1, 1, 0, .null), (.iadd, 1, 0, 0, .null), (.iaload, 1, 4100, 0, .null)] 94 (by decide +kernel) ?_
  show isK sh c 9 ∧ (isA sh (c + 1) 10 4100 ∧ inb (2 + v1) 4100) ∧ Fx q_Mo_sweep 7 sh 94 [some (.ref c), some (.int v1), some (.int v2)] [.int (hp.1 (c + 1) (ix (2 + v1))), .int v2] hp (some (.int res.2)) res.1
  refine ⟨hS.1, ⟨hS.2.1, g9⟩, ?_⟩
  refine Fx.icmp_ge (29) 123 97 (by decide +kernel) (fun b10 => ?_) (fun b10 => ?_)
  · replace hf := ifp b10 hf
    replace hf := mpd hf
    obtain ⟨t, hf, rfl⟩ := hf
    refine Fx.run [(.iinc 1 1, 3, 1, 0, .int 1)] 126 (by decide +kernel) ?_
    show Fx q_Mo_sweep 7 sh 126 [some (.ref c), some (.int (v1 + 1)), some (.int v2)] [] hp (some (.int res.2)) res.1
    refine Fx.goto (-59) 67 (by decide +kernel) ?_
    obtain rfl := Option.some.inj hf
    have hk : Fx q_Mo_sweep 7 sh 67 [some (.ref c), some (.int (v1 + 1)), none] [] hp (some (.int res.2)) res.1 := hk
    exact Fx.le hk (And.intro rfl (And.intro rfl trivial))
  · replace hf := ifn b10 hf
    refine Fx.run [(.aload_n 0, 1, 0, 0, .null), (.iload_n 1, 1, 1, 0, .null), (.iload_n 2, 1, 2, 0, .null), (.iconst 1, 1, 0, 0, .int 1)] 101 (by decide +kernel) ?_
    show Fx q_Mo_sweep 7 sh 101 [some (.ref c), some (.int v1), some (.int v2)] [.int 1, .int v2, .int v1, .ref c] hp (some (.int res.2)) res.1
    replace hf := bnd hf
    obtain ⟨r11, hr11, hf⟩ := hf
    refine Fx.callS (rr := (some (.int r11))) (hp1 := hp) [.int v1, .int v2, .int 1] [.ref c] lk_9_136 (by decide +kernel) (t_Mo_event sh hp v1 v2 1 r11 hr11) ⟨Nat.le_of_ble_eq_true rfl, Nat.le_of_ble_eq_true rfl⟩ rfl (Nat.le_of_ble_eq_true rfl) ?_
    show Fx q_Mo_sweep 7 sh 104 [some (.ref c), some (.int v1), some (.int v2)] [.int r11, .ref c] hp (some (.int res.2)) res.1
    replace hf := bnd hf
    obtain ⟨h13, hr12, hf⟩ := hf
    refine Fx.callV (rr := none) (hp1 := h13) [.int r11] [] lk_9_139 (by decide +kernel) (t_Mo_enters sh c (hS) hp r11 h13 hr12) ⟨Nat.le_of_ble_eq_true rfl, Nat.le_of_ble_eq_true rfl⟩ (hS).1 (by decide) rfl (Nat.le_of_ble_eq_true rfl) ?_
    show Fx q_Mo_sweep 7 sh 107 [some (.ref c), some (.int v1), some (.int v2)] [] h13 (some (.int res.2)) res.1
    refine Fx.run [(.aload_n 0, 1, 0, 0, .null), (.iload_n 1, 1, 1, 0, .null), (.iload_n 2, 1, 2, 0, .null), (.iconst 0, 1, 0, 0, .int 0)] 111 (by decide +kernel) ?_
    show Fx q_Mo_sweep 7 sh 111 [some (.ref c), some (.int v1), some (.int v2)] [.int 0, .int v2, .int v1, .ref c] h13 (some (.int res.2)) res.1
    replace hf := bnd hf
    obtain ⟨r14, hr14, hf⟩ := hf
    refine Fx.callS (rr := (some (.int r14))) (hp1 := h13) [.int v1, .int v2, .int 0] [.ref c] lk_9_136 (by decide +kernel) (t_Mo_event sh h13 v1 v2 0 r14 hr14) ⟨Nat.le_of_ble_eq_true rfl, Nat.le_of_ble_eq_true rfl⟩ rfl (Nat.le_of_ble_eq_true rfl) ?_
    show Fx q_Mo_sweep 7 sh 114 [some (.ref c), some (.int v1), some (.int v2)] [.int r14, .ref c] h13 (some (.int res.2)) res.1
    replace hf := bnd hf
    obtain ⟨h16, hr15, hf⟩ := hf
    refine Fx.callV (rr := none) (hp1 := h16) [.int r14] [] lk_9_139 (by decide +kernel) (t_Mo_enters sh c (hS) h13 r14 h16 hr15) ⟨Nat.le_of_ble_eq_true rfl, Nat.le_of_ble_eq_true rfl⟩ (hS).1 (by decide) rfl (Nat.le_of_ble_eq_true rfl) ?_
    show Fx q_Mo_sweep 7 sh 117 [some (.ref c), some (.int v1), some (.int v2)] [] h16 (some (.int res.2)) res.1
    refine Fx.run [(.iinc 2 1, 3, 2, 0, .int 1)] 120 (by decide +kernel) ?_
    show Fx q_Mo_sweep 7 sh 120 [some (.ref c), some (.int v1), some (.int (v2 + 1))] [] h16 (some (.int res.2)) res.1
    refine Fx.goto (-35) 85 (by decide +kernel) ?_
    obtain rfl := Option.some.inj hf
    have hk : Fx q_Mo_sweep 7 sh 85 [some (.ref c), some (.int v1), some (.int (v2 + 1))] [] h16 (some (.int res.2)) res.1 := hk
    exact Fx.le hk (And.intro rfl (And.intro rfl (And.intro rfl trivial)))
set_option maxHeartbeats 4000000 in
set_option maxRecDepth 20000 in
theorem t_Mo_sweep_l67 (sh : Shp) (c : Nat) (hS : S_Mo sh c) (hp : HP)  (res : (HP × Int32)) : ∀ (s : (HP × Int32)) (t : (HP × Int32)), f_Mo_sweep_l67 c hp  s = some t → (fun v => v = res) t → P_Mo_sweep_67 sh c  res s := by
  refine loop_ind (P_Mo_sweep_67 sh c  res) (fun v => v = res) ?_
  intro s t hf hk
  obtain ⟨hp, v1⟩ := s
  replace hf : f_Mo_sweep_b67 c hp  v1 = some t := hf
  show Fx q_Mo_sweep 7 sh 67 [some (.ref c), some (.int v1), none] [] hp (some (.int res.2)) res.1
  unfold f_Mo_sweep_b67 at hf
  refine Fx.run [(.iload_n 1, 1, 1, 0, .null), (.iconst 2, 1, 0, 0, .int 2)] 69 (by decide +kernel) ?_
  show Fx q_Mo_sweep 7 sh 69 [some (.ref c), some (.int v1), none] [.int 2, .int v1] hp (some (.int res.2)) res.1
  refine Fx.icmp_ge (60) 129 72 (by decide +kernel) (fun b4 => ?_) (fun b4 => ?_)
  · replace hf := ifp b4 hf
    replace hf := mpd hf
    obtain ⟨t, hf, rfl⟩ := hf
    refine Fx.run [(.aload_n 0, 1, 0, 0, .null)] 130 (by decide +kernel) ?_
    show Fx q_Mo_sweep 7 sh 130 [some (.ref c), some (.int v1), none] [.ref c] hp (some (.int res.2)) res.1
    replace hf := bnd hf
    obtain ⟨h6, hr5, hf⟩ := hf
    refine Fx.callV (rr := none) (hp1 := h6) [] [] lk_9_143 (by decide +kernel) (t_Mo_looksAtHeld sh c (hS) hp h6 hr5) ⟨Nat.le_of_ble_eq_true rfl, Nat.le_of_ble_eq_true rfl⟩ (hS).1 (by decide) rfl (Nat.le_of_ble_eq_true rfl) ?_
    show Fx q_Mo_sweep 7 sh 133 [some (.ref c), some (.int v1), none] [] h6 (some (.int res.2)) res.1
    refine Fx.run [(.aload_n 0, 1, 0, 0, .null), (.getfield 9, 3, 9, 0, .ref 1), (.sipush 614, 3, 0, 0, .int 614), (.aload_n 0, 1, 0, 0, .null), (.getfield 9, 3, 9, 0, .ref 1), (.sipush 616, 3, 0, 0, .int 616), (.iaload, 1, 4100, 0, .null)] 148 (by decide +kernel) ?_
    show isK sh c 9 ∧ isK sh c 9 ∧ (isA sh (c + 1) 10 4100 ∧ inb 616 4100) ∧ Fx q_Mo_sweep 7 sh 148 [some (.ref c), some (.int v1), none] [.int (h6.1 (c + 1) (ix 616)), .int 614, .ref (c + 1)] h6 (some (.int res.2)) res.1
    refine ⟨hS.1, hS.1, ⟨hS.2.1, (by decide)⟩, ?_⟩
    refine Fx.if_le (7) 155 151 (by decide +kernel) (fun b7 => ?_) (fun b7 => ?_)
    · replace hf := ifp b7 hf
      refine Fx.run [(.iconst 0, 1, 0, 0, .int 0), (.iastore, 1, 4100, 0, .null), (.aload_n 0, 1, 0, 0, .null), (.getfield 9, 3, 9, 0, .ref 1), (.sipush 616, 3, 0, 0, .int 616), (.iaload, 1, 4100, 0, .null)] 165 (by decide +kernel) ?_
      show (isA sh (c + 1) 10 4100 ∧ inb 614 4100) ∧ isK sh c 9 ∧ (isA sh (c + 1) 10 4100 ∧ inb 616 4100) ∧ Fx q_Mo_sweep 7 sh 165 [some (.ref c), some (.int v1), none] [.int ((upI h6 (c + 1) (ix 614) 0).1 (c + 1) (ix 616))] (upI h6 (c + 1) (ix 614) 0) (some (.int res.2)) res.1
      refine ⟨⟨hS.2.1, (by decide)⟩, hS.1, ⟨hS.2.1, (by decide)⟩, ?_⟩
      obtain rfl := Option.some.inj hf
      have hk : ((upI h6 (c + 1) (ix 614) 0), ((upI h6 (c + 1) (ix 614) 0).1 (c + 1) (ix 616))) = res := hk
      subst hk
      exact Fx.iret (by decide +kernel) rfl
    · replace hf := ifn b7 hf
      refine Fx.run [(.iconst 1, 1, 0, 0, .int 1)] 152 (by decide +kernel) ?_
      show Fx q_Mo_sweep 7 sh 152 [some (.ref c), some (.int v1), none] [.int 1, .int 614, .ref (c + 1)] h6 (some (.int res.2)) res.1
      refine Fx.goto (4) 156 (by decide +kernel) ?_
      refine Fx.run [(.iastore, 1, 4100, 0, .null), (.aload_n 0, 1, 0, 0, .null), (.getfield 9, 3, 9, 0, .ref 1), (.sipush 616, 3, 0, 0, .int 616), (.iaload, 1, 4100, 0, .null)] 165 (by decide +kernel) ?_
      show (isA sh (c + 1) 10 4100 ∧ inb 614 4100) ∧ isK sh c 9 ∧ (isA sh (c + 1) 10 4100 ∧ inb 616 4100) ∧ Fx q_Mo_sweep 7 sh 165 [some (.ref c), some (.int v1), none] [.int ((upI h6 (c + 1) (ix 614) 1).1 (c + 1) (ix 616))] (upI h6 (c + 1) (ix 614) 1) (some (.int res.2)) res.1
      refine ⟨⟨hS.2.1, (by decide)⟩, hS.1, ⟨hS.2.1, (by decide)⟩, ?_⟩
      obtain rfl := Option.some.inj hf
      have hk : ((upI h6 (c + 1) (ix 614) 1), ((upI h6 (c + 1) (ix 614) 1).1 (c + 1) (ix 616))) = res := hk
      subst hk
      exact Fx.iret (by decide +kernel) rfl
  · replace hf := ifn b4 hf
    replace hf := gd hf
    obtain ⟨g8, hf⟩ := hf
    refine Fx.run [(.aload_n 0, 1, 0, 0, .null), (.getfield 9, 3, 9, 0, .ref 1), (.sipush 781, 3, 0, 0, .int 781), (.iload_n 1, 1, 1, 0, .null), (.iadd, 1, 0, 0, .null), (.iconst 0, 1, 0, 0, .int 0), (.iastore, 1, 4100, 0, .null), (.iconst 0, 1, 0, 0, .int 0), (.istore_n 2, 1, 2, 0, .null)] 85 (by decide +kernel) ?_
    show isK sh c 9 ∧ (isA sh (c + 1) 10 4100 ∧ inb (781 + v1) 4100) ∧ Fx q_Mo_sweep 7 sh 85 [some (.ref c), some (.int v1), some (.int 0)] [] (upI hp (c + 1) (ix (781 + v1)) 0) (some (.int res.2)) res.1
    refine ⟨hS.1, ⟨hS.2.1, g8⟩, ?_⟩
    have hl := t_Mo_sweep_l85 sh c hS (upI hp (c + 1) (ix (781 + v1)) 0) v1 res ((upI hp (c + 1) (ix (781 + v1)) 0), 0) _ hf hk
    have hl : Fx q_Mo_sweep 7 sh 85 [some (.ref c), some (.int v1), some (.int 0)] [] (upI hp (c + 1) (ix (781 + v1)) 0) (some (.int res.2)) res.1 := hl
    exact Fx.le hl (And.intro rfl (And.intro rfl (And.intro rfl trivial)))
set_option maxHeartbeats 4000000 in
set_option maxRecDepth 20000 in
theorem t_Mo_sweep_l36 (sh : Shp) (c : Nat) (hS : S_Mo sh c) (hp : HP)  (res : (HP × Int32)) : ∀ (s : (HP × Int32)) (t : (HP × Int32)), f_Mo_sweep_l36 c hp  s = some t → (fun v => v = res) t → P_Mo_sweep_36 sh c  res s := by
  refine loop_ind (P_Mo_sweep_36 sh c  res) (fun v => v = res) ?_
  intro s t hf hk
  obtain ⟨hp, v1⟩ := s
  replace hf : f_Mo_sweep_b36 c hp  v1 = some t := hf
  show Fx q_Mo_sweep 7 sh 36 [some (.ref c), some (.int v1), none] [] hp (some (.int res.2)) res.1
  unfold f_Mo_sweep_b36 at hf
  refine Fx.run [(.iload_n 1, 1, 1, 0, .null), (.sipush 620, 3, 0, 0, .int 620)] 40 (by decide +kernel) ?_
  show Fx q_Mo_sweep 7 sh 40 [some (.ref c), some (.int v1), none] [.int 620, .int v1] hp (some (.int res.2)) res.1
  refine Fx.icmp_gt (16) 56 43 (by decide +kernel) (fun b3 => ?_) (fun b3 => ?_)
  · replace hf := ifp b3 hf
    replace hf := mpd hf
    obtain ⟨t, hf, rfl⟩ := hf
    refine Fx.run [(.aload_n 0, 1, 0, 0, .null), (.getfield 9, 3, 9, 0, .ref 1), (.sipush 863, 3, 0, 0, .int 863), (.iconst 0, 1, 0, 0, .int 0), (.iastore, 1, 4100, 0, .null), (.iconst 0, 1, 0, 0, .int 0), (.istore_n 1, 1, 1, 0, .null)] 67 (by decide +kernel) ?_
    show isK sh c 9 ∧ (isA sh (c + 1) 10 4100 ∧ inb 863 4100) ∧ Fx q_Mo_sweep 7 sh 67 [some (.ref c), some (.int 0), none] [] (upI hp (c + 1) (ix 863) 0) (some (.int res.2)) res.1
    refine ⟨hS.1, ⟨hS.2.1, (by decide)⟩, ?_⟩
    have hl := t_Mo_sweep_l67 sh c hS (upI hp (c + 1) (ix 863) 0)  res ((upI hp (c + 1) (ix 863) 0), 0) _ hf hk
    have hl : Fx q_Mo_sweep 7 sh 67 [some (.ref c), some (.int 0), none] [] (upI hp (c + 1) (ix 863) 0) (some (.int res.2)) res.1 := hl
    exact Fx.le hl (And.intro rfl (And.intro rfl trivial))
  · replace hf := ifn b3 hf
    replace hf := gd hf
    obtain ⟨g17, hf⟩ := hf
    refine Fx.run [(.aload_n 0, 1, 0, 0, .null), (.getfield 9, 3, 9, 0, .ref 1), (.iload_n 1, 1, 1, 0, .null), (.iconst 0, 1, 0, 0, .int 0), (.iastore, 1, 4100, 0, .null), (.iinc 1 1, 3, 1, 0, .int 1)] 53 (by decide +kernel) ?_
    show isK sh c 9 ∧ (isA sh (c + 1) 10 4100 ∧ inb v1 4100) ∧ Fx q_Mo_sweep 7 sh 53 [some (.ref c), some (.int (v1 + 1)), none] [] (upI hp (c + 1) (ix v1) 0) (some (.int res.2)) res.1
    refine ⟨hS.1, ⟨hS.2.1, g17⟩, ?_⟩
    refine Fx.goto (-17) 36 (by decide +kernel) ?_
    obtain rfl := Option.some.inj hf
    have hk : Fx q_Mo_sweep 7 sh 36 [some (.ref c), some (.int (v1 + 1)), none] [] (upI hp (c + 1) (ix v1) 0) (some (.int res.2)) res.1 := hk
    exact Fx.le hk (And.intro rfl (And.intro rfl trivial))
set_option maxHeartbeats 4000000 in
set_option maxRecDepth 20000 in
theorem t_Mo_sweep (sh : Shp) (c : Nat) (hS : S_Mo sh c) (hp : HP)  (res : (HP × Int32)) (hf : f_Mo_sweep c hp  = some res) : Ex 7 q_Mo_sweep sh [.ref c] hp (some (.int res.2)) res.1 := by
  refine Ex.of [some (.ref c), none, none] rfl (Nat.le_of_ble_eq_true rfl) (by decide +kernel) rfl ?_
  obtain ⟨t, hk⟩ : ∃ t, t = res := ⟨res, rfl⟩
  rw [← hk] at hf
  unfold f_Mo_sweep at hf
  refine Fx.run [(.aload_n 0, 1, 0, 0, .null), (.getfield 9, 3, 9, 0, .ref 1), (.sipush 605, 3, 0, 0, .int 605), (.iconst 0, 1, 0, 0, .int 0), (.iastore, 1, 4100, 0, .null), (.aload_n 0, 1, 0, 0, .null)] 10 (by decide +kernel) ?_
  show isK sh c 9 ∧ (isA sh (c + 1) 10 4100 ∧ inb 605 4100) ∧ Fx q_Mo_sweep 7 sh 10 [some (.ref c), none, none] [.ref c] (upI hp (c + 1) (ix 605) 0) (some (.int res.2)) res.1
  refine ⟨hS.1, ⟨hS.2.1, (by decide)⟩, ?_⟩
  replace hf := bnd hf
  obtain ⟨r1, hr1, hf⟩ := hf
  refine Fx.callV (rr := (some (.int r1))) (hp1 := (upI hp (c + 1) (ix 605) 0)) [] [] lk_9_80 (by decide +kernel) (t_Mo_isSweeping sh c (hS) (upI hp (c + 1) (ix 605) 0) r1 hr1) ⟨Nat.le_of_ble_eq_true rfl, Nat.le_of_ble_eq_true rfl⟩ (hS).1 (by decide) rfl (Nat.le_of_ble_eq_true rfl) ?_
  show Fx q_Mo_sweep 7 sh 13 [some (.ref c), none, none] [.int r1] (upI hp (c + 1) (ix 605) 0) (some (.int res.2)) res.1
  refine Fx.if_eq (19) 32 16 (by decide +kernel) (fun b2 => ?_) (fun b2 => ?_)
  · replace hf := ifp b2 hf
    refine Fx.run [(.sipush 615, 3, 0, 0, .int 615), (.istore_n 1, 1, 1, 0, .null)] 36 (by decide +kernel) ?_
    show Fx q_Mo_sweep 7 sh 36 [some (.ref c), some (.int 615), none] [] (upI hp (c + 1) (ix 605) 0) (some (.int res.2)) res.1
    have hl := t_Mo_sweep_l36 sh c hS (upI hp (c + 1) (ix 605) 0)  res ((upI hp (c + 1) (ix 605) 0), 615) _ hf hk
    have hl : Fx q_Mo_sweep 7 sh 36 [some (.ref c), some (.int 615), none] [] (upI hp (c + 1) (ix 605) 0) (some (.int res.2)) res.1 := hl
    exact Fx.le hl (And.intro rfl (And.intro rfl trivial))
  · replace hf := ifn b2 hf
    refine Fx.run [(.aload_n 0, 1, 0, 0, .null), (.bipush 8, 2, 0, 0, .int 8), (.aload_n 0, 1, 0, 0, .null), (.getfield 9, 3, 9, 0, .ref 1), (.sipush 615, 3, 0, 0, .int 615), (.iaload, 1, 4100, 0, .null)] 27 (by decide +kernel) ?_
    show isK sh c 9 ∧ (isA sh (c + 1) 10 4100 ∧ inb 615 4100) ∧ Fx q_Mo_sweep 7 sh 27 [some (.ref c), none, none] [.int ((upI hp (c + 1) (ix 605) 0).1 (c + 1) (ix 615)), .int 8, .ref c] (upI hp (c + 1) (ix 605) 0) (some (.int res.2)) res.1
    refine ⟨hS.1, ⟨hS.2.1, (by decide)⟩, ?_⟩
    replace hf := bnd hf
    obtain ⟨h19, hr18, hf⟩ := hf
    refine Fx.callV (rr := none) (hp1 := h19) [.int 8, .int ((upI hp (c + 1) (ix 605) 0).1 (c + 1) (ix 615))] [] lk_9_84 (by decide +kernel) (t_Mo_causes sh c (hS) (upI hp (c + 1) (ix 605) 0) 8 ((upI hp (c + 1) (ix 605) 0).1 (c + 1) (ix 615)) h19 hr18) ⟨Nat.le_of_ble_eq_true rfl, Nat.le_of_ble_eq_true rfl⟩ (hS).1 (by decide) rfl (Nat.le_of_ble_eq_true rfl) ?_
    show Fx q_Mo_sweep 7 sh 30 [some (.ref c), none, none] [] h19 (some (.int res.2)) res.1
    refine Fx.run [(.iconst (-1), 1, 0, 0, .int (-1))] 31 (by decide +kernel) ?_
    show Fx q_Mo_sweep 7 sh 31 [some (.ref c), none, none] [.int (-1)] h19 (some (.int res.2)) res.1
    obtain rfl := Option.some.inj hf
    have hk : (h19, (-1)) = res := hk
    subst hk
    exact Fx.iret (by decide +kernel) rfl
set_option maxHeartbeats 4000000 in
set_option maxRecDepth 20000 in
theorem t_Mo_activeAt (sh : Shp) (c : Nat) (hS : S_Mo sh c) (hp : HP) (v1 : Int32) (v2 : Int32) (res : Int32) (hf : f_Mo_activeAt c hp v1 v2 = some res) : Ex 1 q_Mo_activeAt sh [.ref c, .int v1, .int v2] hp (some (.int res)) hp := by
  refine Ex.of [some (.ref c), some (.int v1), some (.int v2)] rfl (Nat.le_of_ble_eq_true rfl) (by decide +kernel) rfl ?_
  obtain ⟨t, hk⟩ : ∃ t, t = res := ⟨res, rfl⟩
  rw [← hk] at hf
  unfold f_Mo_activeAt at hf
  refine Fx.run [(.sipush 783, 3, 0, 0, .int 783), (.bipush 40, 2, 0, 0, .int 40), (.iload_n 1, 1, 1, 0, .null), (.imul, 1, 0, 0, .null), (.iadd, 1, 0, 0, .null), (.iload_n 2, 1, 2, 0, .null), (.iadd, 1, 0, 0, .null)] 10 (by decide +kernel) ?_
  show Fx q_Mo_activeAt 1 sh 10 [some (.ref c), some (.int v1), some (.int v2)] [.int ((783 + (40 * v1)) + v2)] hp (some (.int res)) hp
  obtain rfl := Option.some.inj hf
  have hk : ((783 + (40 * v1)) + v2) = res := hk
  subst hk
  exact Fx.iret (by decide +kernel) rfl
abbrev P_Mo_starts_7 (sh : Shp) (c : Nat) (v1 : Int32) (v2 : Int32) (v3 : Int32) (res : HP) : (HP × Int32) → Prop := fun s => Fx q_Mo_starts 7 sh 7 [some (.ref c), some (.int v1), some (.int v2), some (.int v3), some (.int s.2), none] [] s.1 none res
set_option maxHeartbeats 4000000 in
set_option maxRecDepth 20000 in
theorem t_Mo_starts_j109 (sh : Shp) (c : Nat) (hS : S_Mo sh c) (hp : HP) (v1 : Int32) (v2 : Int32) (v3 : Int32) (v4 : Int32) (s0 : Int32) (s1 : Int32) (s2 : Nat) (hs2 : isA sh s2 10 4100) (res : HP) (t : ((HP × Int32) ⊕ HP)) (hf : f_Mo_starts_j109 c hp v1 v2 v3 v4 s0 s1 s2 = some t) (hk : (Kel (P_Mo_starts_7 sh c v1 v2 v3 res) (fun v => v = res)) t) : Fx q_Mo_starts 7 sh 109 [some (.ref c), some (.int v1), some (.int v2), some (.int v3), some (.int v4), none] [.int s0, .int s1, .ref s2] hp none res := by
  unfold f_Mo_starts_j109 at hf
  replace hf := gd hf
  obtain ⟨g15, hf⟩ := hf
  refine Fx.run [(.iastore, 1, 4100, 0, .null), (.aload_n 0, 1, 0, 0, .null), (.getfield 9, 3, 9, 0, .ref 1), (.sipush 863, 3, 0, 0, .int 863), (.dup2, 1, 0, 0, .null), (.iaload, 1, 4100, 0, .null), (.iconst 1, 1, 0, 0, .int 1), (.iadd, 1, 0, 0, .null), (.iastore, 1, 4100, 0, .null), (.iinc 4 1, 3, 4, 0, .int 1)] 125 (by decide +kernel) ?_
  show (isA sh s2 10 4100 ∧ inb s1 4100) ∧ isK sh c 9 ∧ (isA sh (c + 1) 10 4100 ∧ inb 863 4100) ∧ (isA sh (c + 1) 10 4100 ∧ inb 863 4100) ∧ Fx q_Mo_starts 7 sh 125 [some (.ref c), some (.int v1), some (.int v2), some (.int v3), some (.int (v4 + 1)), none] [] (upI (upI hp s2 (ix s1) s0) (c + 1) (ix 863) (((upI hp s2 (ix s1) s0).1 (c + 1) (ix 863)) + 1)) none res
  refine ⟨⟨hs2, g15⟩, hS.1, ⟨hS.2.1, (by decide)⟩, ⟨hS.2.1, (by decide)⟩, ?_⟩
  refine Fx.goto (-118) 7 (by decide +kernel) ?_
  obtain rfl := Option.some.inj hf
  have hk : Fx q_Mo_starts 7 sh 7 [some (.ref c), some (.int v1), some (.int v2), some (.int v3), some (.int (v4 + 1)), none] [] (upI (upI hp s2 (ix s1) s0) (c + 1) (ix 863) (((upI hp s2 (ix s1) s0).1 (c + 1) (ix 863)) + 1)) none res := hk
  exact Fx.le hk (And.intro rfl (And.intro rfl (And.intro rfl (And.intro rfl (And.intro rfl trivial)))))
set_option maxHeartbeats 4000000 in
set_option maxRecDepth 20000 in
theorem t_Mo_starts_j78 (sh : Shp) (c : Nat) (hS : S_Mo sh c) (hp : HP) (v1 : Int32) (v2 : Int32) (v3 : Int32) (v4 : Int32) (v5 : Int32) (s0 : Int32) (s1 : Int32) (s2 : Nat) (hs2 : isA sh s2 10 4100) (res : HP) (t : ((HP × Int32) ⊕ HP)) (hf : f_Mo_starts_j78 c hp v1 v2 v3 v4 v5 s0 s1 s2 = some t) (hk : (Kel (P_Mo_starts_7 sh c v1 v2 v3 res) (fun v => v = res)) t) : Fx q_Mo_starts 7 sh 78 [some (.ref c), some (.int v1), some (.int v2), some (.int v3), some (.int v4), some (.int v5)] [.int s0, .int s1, .ref s2] hp none res := by
  unfold f_Mo_starts_j78 at hf
  replace hf := gd hf
  obtain ⟨g13, hf⟩ := hf
  refine Fx.run [(.iastore, 1, 4100, 0, .null), (.aload_n 0, 1, 0, 0, .null), (.getfield 9, 3, 9, 0, .ref 1), (.sipush 864, 3, 0, 0, .int 864), (.iconst 2, 1, 0, 0, .int 2), (.aload_n 0, 1, 0, 0, .null), (.getfield 9, 3, 9, 0, .ref 1), (.sipush 863, 3, 0, 0, .int 863), (.iaload, 1, 4100, 0, .null), (.imul, 1, 0, 0, .null), (.iadd, 1, 0, 0, .null), (.iconst 1, 1, 0, 0, .int 1), (.iadd, 1, 0, 0, .null), (.iload_n 1, 1, 1, 0, .null)] 100 (by decide +kernel) ?_
  show (isA sh s2 10 4100 ∧ inb s1 4100) ∧ isK sh c 9 ∧ isK sh c 9 ∧ (isA sh (c + 1) 10 4100 ∧ inb 863 4100) ∧ Fx q_Mo_starts 7 sh 100 [some (.ref c), some (.int v1), some (.int v2), some (.int v3), some (.int v4), some (.int v5)] [.int v1, .int ((864 + (2 * ((upI hp s2 (ix s1) s0).1 (c + 1) (ix 863)))) + 1), .ref (c + 1)] (upI hp s2 (ix s1) s0) none res
  refine ⟨⟨hs2, g13⟩, hS.1, hS.1, ⟨hS.2.1, (by decide)⟩, ?_⟩
  refine Fx.if_ne (8) 108 103 (by decide +kernel) (fun b14 => ?_) (fun b14 => ?_)
  · replace hf := ifn b14 hf
    refine Fx.run [(.iload_n 2, 1, 2, 0, .null)] 109 (by decide +kernel) ?_
    show Fx q_Mo_starts 7 sh 109 [some (.ref c), some (.int v1), some (.int v2), some (.int v3), some (.int v4), some (.int v5)] [.int v2, .int ((864 + (2 * ((upI hp s2 (ix s1) s0).1 (c + 1) (ix 863)))) + 1), .ref (c + 1)] (upI hp s2 (ix s1) s0) none res
    have hl := t_Mo_starts_j109 sh c hS (upI hp s2 (ix s1) s0) v1 v2 v3 v4 v2 ((864 + (2 * ((upI hp s2 (ix s1) s0).1 (c + 1) (ix 863)))) + 1) (c + 1) (hS.2.1) res _ hf hk
    exact Fx.le hl (And.intro rfl (And.intro rfl (And.intro rfl (And.intro rfl (And.intro rfl trivial)))))
  · replace hf := ifp b14 hf
    refine Fx.run [(.iload 5, 2, 5, 0, .null)] 105 (by decide +kernel) ?_
    show Fx q_Mo_starts 7 sh 105 [some (.ref c), some (.int v1), some (.int v2), some (.int v3), some (.int v4), some (.int v5)] [.int v5, .int ((864 + (2 * ((upI hp s2 (ix s1) s0).1 (c + 1) (ix 863)))) + 1), .ref (c + 1)] (upI hp s2 (ix s1) s0) none res
    refine Fx.goto (4) 109 (by decide +kernel) ?_
    have hl := t_Mo_starts_j109 sh c hS (upI hp s2 (ix s1) s0) v1 v2 v3 v4 v5 ((864 + (2 * ((upI hp s2 (ix s1) s0).1 (c + 1) (ix 863)))) + 1) (c + 1) (hS.2.1) res _ hf hk
    exact Fx.le hl (And.intro rfl (And.intro rfl (And.intro rfl (And.intro rfl (And.intro rfl trivial)))))
set_option maxHeartbeats 4000000 in
set_option maxRecDepth 20000 in
theorem t_Mo_starts_l7 (sh : Shp) (c : Nat) (hS : S_Mo sh c) (hp : HP) (v1 : Int32) (v2 : Int32) (v3 : Int32) (res : HP) : ∀ (s : (HP × Int32)) (t : HP), f_Mo_starts_l7 c hp v1 v2 v3 s = some t → (fun v => v = res) t → P_Mo_starts_7 sh c v1 v2 v3 res s := by
  refine loop_ind (P_Mo_starts_7 sh c v1 v2 v3 res) (fun v => v = res) ?_
  intro s t hf hk
  obtain ⟨hp, v4⟩ := s
  replace hf : f_Mo_starts_b7 c hp v1 v2 v3 v4 = some t := hf
  show Fx q_Mo_starts 7 sh 7 [some (.ref c), some (.int v1), some (.int v2), some (.int v3), some (.int v4), none] [] hp none res
  unfold f_Mo_starts_b7 at hf
  replace hf := gd hf
  obtain ⟨g1, hf⟩ := hf
  refine Fx.run [(.iload 4, 2, 4, 0, .null), (.aload_n 0, 1, 0, 0, .null), (.getfield 9, 3, 9, 0, .ref 1), (.sipush 781, 3, 0, 0, .int 781), (.iload_n 3, 1, 3, 0, .null), (.iadd, 1, 0, 0, .null), (.iaload, 1, 4100, 0, .null)] 19 (by decide +kernel) ?_
  show isK sh c 9 ∧ (isA sh (c + 1) 10 4100 ∧ inb (781 + v3) 4100) ∧ Fx q_Mo_starts 7 sh 19 [some (.ref c), some (.int v1), some (.int v2), some (.int v3), some (.int v4), none] [.int (hp.1 (c + 1) (ix (781 + v3))), .int v4] hp none res
  refine ⟨hS.1, ⟨hS.2.1, g1⟩, ?_⟩
  refine Fx.icmp_ge (109) 128 22 (by decide +kernel) (fun b2 => ?_) (fun b2 => ?_)
  · replace hf := ifp b2 hf
    replace hf := mpd hf
    obtain ⟨t, hf, rfl⟩ := hf
    replace hf := gd hf
    obtain ⟨g3, hf⟩ := hf
    refine Fx.run [(.aload_n 0, 1, 0, 0, .null), (.getfield 9, 3, 9, 0, .ref 1), (.aload_n 0, 1, 0, 0, .null), (.iload_n 1, 1, 1, 0, .null), (.aload_n 0, 1, 0, 0, .null), (.getfield 9, 3, 9, 0, .ref 1), (.sipush 781, 3, 0, 0, .int 781), (.iload_n 1, 1, 1, 0, .null), (.iadd, 1, 0, 0, .null), (.iaload, 1, 4100, 0, .null)] 144 (by decide +kernel) ?_
    show isK sh c 9 ∧ isK sh c 9 ∧ (isA sh (c + 1) 10 4100 ∧ inb (781 + v1) 4100) ∧ Fx q_Mo_starts 7 sh 144 [some (.ref c), some (.int v1), some (.int v2), some (.int v3), some (.int v4), none] [.int (hp.1 (c + 1) (ix (781 + v1))), .int v1, .ref c, .ref (c + 1)] hp none res
    refine ⟨hS.1, hS.1, ⟨hS.2.1, g3⟩, ?_⟩
    replace hf := bnd hf
    obtain ⟨r4, hr4, hf⟩ := hf
    refine Fx.callV (rr := (some (.int r4))) (hp1 := hp) [.int v1, .int (hp.1 (c + 1) (ix (781 + v1)))] [.ref (c + 1)] lk_9_146 (by decide +kernel) (t_Mo_activeAt sh c (hS) hp v1 (hp.1 (c + 1) (ix (781 + v1))) r4 hr4) ⟨Nat.le_of_ble_eq_true rfl, Nat.le_of_ble_eq_true rfl⟩ (hS).1 (by decide) rfl (Nat.le_of_ble_eq_true rfl) ?_
    show Fx q_Mo_starts 7 sh 147 [some (.ref c), some (.int v1), some (.int v2), some (.int v3), some (.int v4), none] [.int r4, .ref (c + 1)] hp none res
    replace hf := gd hf
    obtain ⟨g5, hf⟩ := hf
    replace hf := gd hf
    obtain ⟨g6, hf⟩ := hf
    replace hf := gd hf
    obtain ⟨g7, hf⟩ := hf
    refine Fx.run [(.iload_n 2, 1, 2, 0, .null), (.iastore, 1, 4100, 0, .null), (.aload_n 0, 1, 0, 0, .null), (.getfield 9, 3, 9, 0, .ref 1), (.sipush 781, 3, 0, 0, .int 781), (.iload_n 1, 1, 1, 0, .null), (.iadd, 1, 0, 0, .null), (.dup2, 1, 0, 0, .null), (.iaload, 1, 4100, 0, .null), (.iconst 1, 1, 0, 0, .int 1), (.iadd, 1, 0, 0, .null), (.iastore, 1, 4100, 0, .null)] 163 (by decide +kernel) ?_
    show (isA sh (c + 1) 10 4100 ∧ inb r4 4100) ∧ isK sh c 9 ∧ (isA sh (c + 1) 10 4100 ∧ inb (781 + v1) 4100) ∧ (isA sh (c + 1) 10 4100 ∧ inb (781 + v1) 4100) ∧ Fx q_Mo_starts 7 sh 163 [some (.ref c), some (.int v1), some (.int v2), some (.int v3), some (.int v4), none] [] (upI (upI hp (c + 1) (ix r4) v2) (c + 1) (ix (781 + v1)) (((upI hp (c + 1) (ix r4) v2).1 (c + 1) (ix (781 + v1))) + 1)) none res
    refine ⟨⟨hS.2.1, g5⟩, hS.1, ⟨hS.2.1, g6⟩, ⟨hS.2.1, g7⟩, ?_⟩
    obtain rfl := Option.some.inj hf
    have hk : (upI (upI hp (c + 1) (ix r4) v2) (c + 1) (ix (781 + v1)) (((upI hp (c + 1) (ix r4) v2).1 (c + 1) (ix (781 + v1))) + 1)) = res := hk
    subst hk
    exact Fx.vret (by decide +kernel) rfl
  · replace hf := ifn b2 hf
    refine Fx.run [(.aload_n 0, 1, 0, 0, .null), (.getfield 9, 3, 9, 0, .ref 1), (.aload_n 0, 1, 0, 0, .null), (.iload_n 3, 1, 3, 0, .null), (.iload 4, 2, 4, 0, .null)] 30 (by decide +kernel) ?_
    show isK sh c 9 ∧ Fx q_Mo_starts 7 sh 30 [some (.ref c), some (.int v1), some (.int v2), some (.int v3), some (.int v4), none] [.int v4, .int v3, .ref c, .ref (c + 1)] hp none res
    refine ⟨hS.1, ?_⟩
    replace hf := bnd hf
    obtain ⟨r8, hr8, hf⟩ := hf
    refine Fx.callV (rr := (some (.int r8))) (hp1 := hp) [.int v3, .int v4] [.ref (c + 1)] lk_9_146 (by decide +kernel) (t_Mo_activeAt sh c (hS) hp v3 v4 r8 hr8) ⟨Nat.le_of_ble_eq_true rfl, Nat.le_of_ble_eq_true rfl⟩ (hS).1 (by decide) rfl (Nat.le_of_ble_eq_true rfl) ?_
    show Fx q_Mo_starts 7 sh 33 [some (.ref c), some (.int v1), some (.int v2), some (.int v3), some (.int v4), none] [.int r8, .ref (c + 1)] hp none res
    replace hf := gd hf
    obtain ⟨g9, hf⟩ := hf
    refine Fx.run [(.iaload, 1, 4100, 0, .null), (.istore 5, 2, 5, 0, .null), (.aload_n 0, 1, 0, 0, .null), (.iload_n 1, 1, 1, 0, .null), (.iload_n 2, 1, 2, 0, .null), (.iload 5, 2, 5, 0, .null)] 41 (by decide +kernel) ?_
    show (isA sh (c + 1) 10 4100 ∧ inb r8 4100) ∧ Fx q_Mo_starts 7 sh 41 [some (.ref c), some (.int v1), some (.int v2), some (.int v3), some (.int v4), some (.int (hp.1 (c + 1) (ix r8)))] [.int (hp.1 (c + 1) (ix r8)), .int v2, .int v1, .ref c] hp none res
    refine ⟨⟨hS.2.1, g9⟩, ?_⟩
    replace hf := bnd hf
    obtain ⟨r10, hr10, hf⟩ := hf
    refine Fx.callV (rr := (some (.int r10))) (hp1 := hp) [.int v1, .int v2, .int (hp.1 (c + 1) (ix r8))] [] lk_9_149 (by decide +kernel) (t_Mo_isPartner sh c (hS) hp v1 v2 (hp.1 (c + 1) (ix r8)) r10 hr10) ⟨Nat.le_of_ble_eq_true rfl, Nat.le_of_ble_eq_true rfl⟩ (hS).1 (by decide) rfl (Nat.le_of_ble_eq_true rfl) ?_
    show Fx q_Mo_starts 7 sh 44 [some (.ref c), some (.int v1), some (.int v2), some (.int v3), some (.int v4), some (.int (hp.1 (c + 1) (ix r8)))] [.int r10] hp none res
    refine Fx.if_ne (6) 50 47 (by decide +kernel) (fun b11 => ?_) (fun b11 => ?_)
    · replace hf := ifn b11 hf
      refine Fx.run [(.aload_n 0, 1, 0, 0, .null), (.getfield 9, 3, 9, 0, .ref 1), (.sipush 864, 3, 0, 0, .int 864), (.iconst 2, 1, 0, 0, .int 2), (.aload_n 0, 1, 0, 0, .null), (.getfield 9, 3, 9, 0, .ref 1), (.sipush 863, 3, 0, 0, .int 863), (.iaload, 1, 4100, 0, .null), (.imul, 1, 0, 0, .null), (.iadd, 1, 0, 0, .null), (.iload_n 1, 1, 1, 0, .null)] 69 (by decide +kernel) ?_
      show isK sh c 9 ∧ isK sh c 9 ∧ (isA sh (c + 1) 10 4100 ∧ inb 863 4100) ∧ Fx q_Mo_starts 7 sh 69 [some (.ref c), some (.int v1), some (.int v2), some (.int v3), some (.int v4), some (.int (hp.1 (c + 1) (ix r8)))] [.int v1, .int (864 + (2 * (hp.1 (c + 1) (ix 863)))), .ref (c + 1)] hp none res
      refine ⟨hS.1, hS.1, ⟨hS.2.1, (by decide)⟩, ?_⟩
      refine Fx.if_ne (7) 76 72 (by decide +kernel) (fun b12 => ?_) (fun b12 => ?_)
      · replace hf := ifn b12 hf
        refine Fx.run [(.iload 5, 2, 5, 0, .null)] 78 (by decide +kernel) ?_
        show Fx q_Mo_starts 7 sh 78 [some (.ref c), some (.int v1), some (.int v2), some (.int v3), some (.int v4), some (.int (hp.1 (c + 1) (ix r8)))] [.int (hp.1 (c + 1) (ix r8)), .int (864 + (2 * (hp.1 (c + 1) (ix 863)))), .ref (c + 1)] hp none res
        have hl := t_Mo_starts_j78 sh c hS hp v1 v2 v3 v4 (hp.1 (c + 1) (ix r8)) (hp.1 (c + 1) (ix r8)) (864 + (2 * (hp.1 (c + 1) (ix 863)))) (c + 1) (hS.2.1) res _ hf hk
        exact Fx.le hl (And.intro rfl (And.intro rfl (And.intro rfl (And.intro rfl (And.intro rfl (And.intro rfl trivial))))))
      · replace hf := ifp b12 hf
        refine Fx.run [(.iload_n 2, 1, 2, 0, .null)] 73 (by decide +kernel) ?_
        show Fx q_Mo_starts 7 sh 73 [some (.ref c), some (.int v1), some (.int v2), some (.int v3), some (.int v4), some (.int (hp.1 (c + 1) (ix r8)))] [.int v2, .int (864 + (2 * (hp.1 (c + 1) (ix 863)))), .ref (c + 1)] hp none res
        refine Fx.goto (5) 78 (by decide +kernel) ?_
        have hl := t_Mo_starts_j78 sh c hS hp v1 v2 v3 v4 (hp.1 (c + 1) (ix r8)) v2 (864 + (2 * (hp.1 (c + 1) (ix 863)))) (c + 1) (hS.2.1) res _ hf hk
        exact Fx.le hl (And.intro rfl (And.intro rfl (And.intro rfl (And.intro rfl (And.intro rfl (And.intro rfl trivial))))))
    · replace hf := ifp b11 hf
      refine Fx.goto (75) 122 (by decide +kernel) ?_
      refine Fx.run [(.iinc 4 1, 3, 4, 0, .int 1)] 125 (by decide +kernel) ?_
      show Fx q_Mo_starts 7 sh 125 [some (.ref c), some (.int v1), some (.int v2), some (.int v3), some (.int (v4 + 1)), some (.int (hp.1 (c + 1) (ix r8)))] [] hp none res
      refine Fx.goto (-118) 7 (by decide +kernel) ?_
      obtain rfl := Option.some.inj hf
      have hk : Fx q_Mo_starts 7 sh 7 [some (.ref c), some (.int v1), some (.int v2), some (.int v3), some (.int (v4 + 1)), none] [] hp none res := hk
      exact Fx.le hk (And.intro rfl (And.intro rfl (And.intro rfl (And.intro rfl (And.intro rfl trivial)))))
set_option maxHeartbeats 4000000 in
set_option maxRecDepth 20000 in
theorem t_Mo_starts (sh : Shp) (c : Nat) (hS : S_Mo sh c) (hp : HP) (v1 : Int32) (v2 : Int32) (res : HP) (hf : f_Mo_starts c hp v1 v2 = some res) : Ex 7 q_Mo_starts sh [.ref c, .int v1, .int v2] hp none res := by
  refine Ex.of [some (.ref c), some (.int v1), some (.int v2), none, none, none] rfl (Nat.le_of_ble_eq_true rfl) (by decide +kernel) rfl ?_
  obtain ⟨t, hk⟩ : ∃ t, t = res := ⟨res, rfl⟩
  rw [← hk] at hf
  unfold f_Mo_starts at hf
  refine Fx.run [(.iconst 1, 1, 0, 0, .int 1), (.iload_n 1, 1, 1, 0, .null), (.isub, 1, 0, 0, .null), (.istore_n 3, 1, 3, 0, .null), (.iconst 0, 1, 0, 0, .int 0), (.istore 4, 2, 4, 0, .null)] 7 (by decide +kernel) ?_
  show Fx q_Mo_starts 7 sh 7 [some (.ref c), some (.int v1), some (.int v2), some (.int (1 - v1)), some (.int 0), none] [] hp none res
  have hl := t_Mo_starts_l7 sh c hS hp v1 v2 (1 - v1) res (hp, 0) _ hf hk
  have hl : Fx q_Mo_starts 7 sh 7 [some (.ref c), some (.int v1), some (.int v2), some (.int (1 - v1)), some (.int 0), none] [] hp none res := hl
  exact Fx.le hl (And.intro rfl (And.intro rfl (And.intro rfl (And.intro rfl (And.intro rfl trivial)))))
abbrev P_Mo_ends_28 (sh : Shp) (c : Nat) (hp : HP) (v1 : Int32) (v2 : Int32) (v3 : Int32) (res : HP) : (Int32) → Prop := fun s => Fx q_Mo_ends 2 sh 28 [some (.ref c), some (.int v1), some (.int v2), some (.int v3), some (.int s)] [] hp none res
set_option maxHeartbeats 4000000 in
set_option maxRecDepth 20000 in
theorem t_Mo_ends_l28 (sh : Shp) (c : Nat) (hS : S_Mo sh c) (hp : HP) (v1 : Int32) (v2 : Int32) (v3 : Int32) (res : HP) : ∀ (s : (Int32)) (t : HP), f_Mo_ends_l28 c hp v1 v2 v3 s = some t → (fun v => v = res) t → P_Mo_ends_28 sh c hp v1 v2 v3 res s := by
  refine loop_ind (P_Mo_ends_28 sh c hp v1 v2 v3 res) (fun v => v = res) ?_
  intro s t hf hk
  revert hf hk; revert s; intro v4 hf hk
  replace hf : f_Mo_ends_b28 c hp v1 v2 v3 v4 = some t := hf
  show Fx q_Mo_ends 2 sh 28 [some (.ref c), some (.int v1), some (.int v2), some (.int v3), some (.int v4)] [] hp none res
  unfold f_Mo_ends_b28 at hf
  refine Fx.run [(.aload_n 0, 1, 0, 0, .null), (.getfield 9, 3, 9, 0, .ref 1), (.aload_n 0, 1, 0, 0, .null), (.iload_n 1, 1, 1, 0, .null), (.iload 4, 2, 4, 0, .null)] 36 (by decide +kernel) ?_
  show isK sh c 9 ∧ Fx q_Mo_ends 2 sh 36 [some (.ref c), some (.int v1), some (.int v2), some (.int v3), some (.int v4)] [.int v4, .int v1, .ref c, .ref (c + 1)] hp none res
  refine ⟨hS.1, ?_⟩
  replace hf := bnd hf
  obtain ⟨r4, hr4, hf⟩ := hf
  refine Fx.callV (rr := (some (.int r4))) (hp1 := hp) [.int v1, .int v4] [.ref (c + 1)] lk_9_146 (by decide +kernel) (t_Mo_activeAt sh c (hS) hp v1 v4 r4 hr4) ⟨Nat.le_of_ble_eq_true rfl, Nat.le_of_ble_eq_true rfl⟩ (hS).1 (by decide) rfl (Nat.le_of_ble_eq_true rfl) ?_
  show Fx q_Mo_ends 2 sh 39 [some (.ref c), some (.int v1), some (.int v2), some (.int v3), some (.int v4)] [.int r4, .ref (c + 1)] hp none res
  replace hf := gd hf
  obtain ⟨g5, hf⟩ := hf
  refine Fx.run [(.iaload, 1, 4100, 0, .null), (.iload_n 2, 1, 2, 0, .null)] 41 (by decide +kernel) ?_
  show (isA sh (c + 1) 10 4100 ∧ inb r4 4100) ∧ Fx q_Mo_ends 2 sh 41 [some (.ref c), some (.int v1), some (.int v2), some (.int v3), some (.int v4)] [.int v2, .int (hp.1 (c + 1) (ix r4))] hp none res
  refine ⟨⟨hS.2.1, g5⟩, ?_⟩
  refine Fx.icmp_eq (9) 50 44 (by decide +kernel) (fun b6 => ?_) (fun b6 => ?_)
  · replace hf := ifp b6 hf
    replace hf := mpd hf
    obtain ⟨t, hf, rfl⟩ := hf
    refine Fx.run [(.iload 4, 2, 4, 0, .null), (.iload_n 3, 1, 3, 0, .null)] 53 (by decide +kernel) ?_
    show Fx q_Mo_ends 2 sh 53 [some (.ref c), some (.int v1), some (.int v2), some (.int v3), some (.int v4)] [.int v3, .int v4] hp none res
    refine Fx.icmp_ne (4) 57 56 (by decide +kernel) (fun b7 => ?_) (fun b7 => ?_)
    · replace hf := ifn b7 hf
      refine Fx.run [(.aload_n 0, 1, 0, 0, .null), (.getfield 9, 3, 9, 0, .ref 1), (.aload_n 0, 1, 0, 0, .null), (.iload_n 1, 1, 1, 0, .null), (.iload 4, 2, 4, 0, .null)] 65 (by decide +kernel) ?_
      show isK sh c 9 ∧ Fx q_Mo_ends 2 sh 65 [some (.ref c), some (.int v1), some (.int v2), some (.int v3), some (.int v4)] [.int v4, .int v1, .ref c, .ref (c + 1)] hp none res
      refine ⟨hS.1, ?_⟩
      replace hf := bnd hf
      obtain ⟨r8, hr8, hf⟩ := hf
      refine Fx.callV (rr := (some (.int r8))) (hp1 := hp) [.int v1, .int v4] [.ref (c + 1)] lk_9_146 (by decide +kernel) (t_Mo_activeAt sh c (hS) hp v1 v4 r8 hr8) ⟨Nat.le_of_ble_eq_true rfl, Nat.le_of_ble_eq_true rfl⟩ (hS).1 (by decide) rfl (Nat.le_of_ble_eq_true rfl) ?_
      show Fx q_Mo_ends 2 sh 68 [some (.ref c), some (.int v1), some (.int v2), some (.int v3), some (.int v4)] [.int r8, .ref (c + 1)] hp none res
      refine Fx.run [(.aload_n 0, 1, 0, 0, .null), (.getfield 9, 3, 9, 0, .ref 1), (.aload_n 0, 1, 0, 0, .null), (.iload_n 1, 1, 1, 0, .null), (.iload_n 3, 1, 3, 0, .null)] 75 (by decide +kernel) ?_
      show isK sh c 9 ∧ Fx q_Mo_ends 2 sh 75 [some (.ref c), some (.int v1), some (.int v2), some (.int v3), some (.int v4)] [.int v3, .int v1, .ref c, .ref (c + 1), .int r8, .ref (c + 1)] hp none res
      refine ⟨hS.1, ?_⟩
      replace hf := bnd hf
      obtain ⟨r9, hr9, hf⟩ := hf
      refine Fx.callV (rr := (some (.int r9))) (hp1 := hp) [.int v1, .int v3] [.ref (c + 1), .int r8, .ref (c + 1)] lk_9_146 (by decide +kernel) (t_Mo_activeAt sh c (hS) hp v1 v3 r9 hr9) ⟨Nat.le_of_ble_eq_true rfl, Nat.le_of_ble_eq_true rfl⟩ (hS).1 (by decide) rfl (Nat.le_of_ble_eq_true rfl) ?_
      show Fx q_Mo_ends 2 sh 78 [some (.ref c), some (.int v1), some (.int v2), some (.int v3), some (.int v4)] [.int r9, .ref (c + 1), .int r8, .ref (c + 1)] hp none res
      replace hf := gd hf
      obtain ⟨g10, hf⟩ := hf
      replace hf := gd hf
      obtain ⟨g11, hf⟩ := hf
      refine Fx.run [(.iaload, 1, 4100, 0, .null), (.iastore, 1, 4100, 0, .null), (.aload_n 0, 1, 0, 0, .null), (.getfield 9, 3, 9, 0, .ref 1), (.sipush 619, 3, 0, 0, .int 619), (.dup2, 1, 0, 0, .null), (.iaload, 1, 4100, 0, .null), (.iconst 1, 1, 0, 0, .int 1), (.iadd, 1, 0, 0, .null), (.iastore, 1, 4100, 0, .null)] 92 (by decide +kernel) ?_
      show (isA sh (c + 1) 10 4100 ∧ inb r9 4100) ∧ (isA sh (c + 1) 10 4100 ∧ inb r8 4100) ∧ isK sh c 9 ∧ (isA sh (c + 1) 10 4100 ∧ inb 619 4100) ∧ (isA sh (c + 1) 10 4100 ∧ inb 619 4100) ∧ Fx q_Mo_ends 2 sh 92 [some (.ref c), some (.int v1), some (.int v2), some (.int v3), some (.int v4)] [] (upI (upI hp (c + 1) (ix r8) (hp.1 (c + 1) (ix r9))) (c + 1) (ix 619) (((upI hp (c + 1) (ix r8) (hp.1 (c + 1) (ix r9))).1 (c + 1) (ix 619)) + 1)) none res
      refine ⟨⟨hS.2.1, g10⟩, ⟨hS.2.1, g11⟩, hS.1, ⟨hS.2.1, (by decide)⟩, ⟨hS.2.1, (by decide)⟩, ?_⟩
      obtain rfl := Option.some.inj hf
      have hk : (upI (upI hp (c + 1) (ix r8) (hp.1 (c + 1) (ix r9))) (c + 1) (ix 619) (((upI hp (c + 1) (ix r8) (hp.1 (c + 1) (ix r9))).1 (c + 1) (ix 619)) + 1)) = res := hk
      subst hk
      exact Fx.vret (by decide +kernel) rfl
    · replace hf := ifp b7 hf
      obtain rfl := Option.some.inj hf
      have hk : hp = res := hk
      subst hk
      exact Fx.vret (by decide +kernel) rfl
  · replace hf := ifn b6 hf
    refine Fx.run [(.iinc 4 1, 3, 4, 0, .int 1)] 47 (by decide +kernel) ?_
    show Fx q_Mo_ends 2 sh 47 [some (.ref c), some (.int v1), some (.int v2), some (.int v3), some (.int (v4 + 1))] [] hp none res
    refine Fx.goto (-19) 28 (by decide +kernel) ?_
    obtain rfl := Option.some.inj hf
    have hk : Fx q_Mo_ends 2 sh 28 [some (.ref c), some (.int v1), some (.int v2), some (.int v3), some (.int (v4 + 1))] [] hp none res := hk
    exact Fx.le hk (And.intro rfl (And.intro rfl (And.intro rfl (And.intro rfl (And.intro rfl trivial)))))
set_option maxHeartbeats 4000000 in
set_option maxRecDepth 20000 in
theorem t_Mo_ends (sh : Shp) (c : Nat) (hS : S_Mo sh c) (hp : HP) (v1 : Int32) (v2 : Int32) (res : HP) (hf : f_Mo_ends c hp v1 v2 = some res) : Ex 2 q_Mo_ends sh [.ref c, .int v1, .int v2] hp none res := by
  refine Ex.of [some (.ref c), some (.int v1), some (.int v2), none, none] rfl (Nat.le_of_ble_eq_true rfl) (by decide +kernel) rfl ?_
  obtain ⟨t, hk⟩ : ∃ t, t = res := ⟨res, rfl⟩
  rw [← hk] at hf
  unfold f_Mo_ends at hf
  replace hf := gd hf
  obtain ⟨g1, hf⟩ := hf
  replace hf := gd hf
  obtain ⟨g2, hf⟩ := hf
  replace hf := gd hf
  obtain ⟨g3, hf⟩ := hf
  refine Fx.run [(.aload_n 0, 1, 0, 0, .null), (.getfield 9, 3, 9, 0, .ref 1), (.sipush 781, 3, 0, 0, .int 781), (.iload_n 1, 1, 1, 0, .null), (.iadd, 1, 0, 0, .null), (.dup2, 1, 0, 0, .null), (.iaload, 1, 4100, 0, .null), (.iconst 1, 1, 0, 0, .int 1), (.isub, 1, 0, 0, .null), (.iastore, 1, 4100, 0, .null), (.aload_n 0, 1, 0, 0, .null), (.getfield 9, 3, 9, 0, .ref 1), (.sipush 781, 3, 0, 0, .int 781), (.iload_n 1, 1, 1, 0, .null), (.iadd, 1, 0, 0, .null), (.iaload, 1, 4100, 0, .null), (.istore_n 3, 1, 3, 0, .null), (.iconst 0, 1, 0, 0, .int 0), (.istore 4, 2, 4, 0, .null)] 28 (by decide +kernel) ?_
  show isK sh c 9 ∧ (isA sh (c + 1) 10 4100 ∧ inb (781 + v1) 4100) ∧ (isA sh (c + 1) 10 4100 ∧ inb (781 + v1) 4100) ∧ isK sh c 9 ∧ (isA sh (c + 1) 10 4100 ∧ inb (781 + v1) 4100) ∧ Fx q_Mo_ends 2 sh 28 [some (.ref c), some (.int v1), some (.int v2), some (.int ((upI hp (c + 1) (ix (781 + v1)) ((hp.1 (c + 1) (ix (781 + v1))) - 1)).1 (c + 1) (ix (781 + v1)))), some (.int 0)] [] (upI hp (c + 1) (ix (781 + v1)) ((hp.1 (c + 1) (ix (781 + v1))) - 1)) none res
  refine ⟨hS.1, ⟨hS.2.1, g1⟩, ⟨hS.2.1, g2⟩, hS.1, ⟨hS.2.1, g3⟩, ?_⟩
  have hl := t_Mo_ends_l28 sh c hS (upI hp (c + 1) (ix (781 + v1)) ((hp.1 (c + 1) (ix (781 + v1))) - 1)) v1 v2 ((upI hp (c + 1) (ix (781 + v1)) ((hp.1 (c + 1) (ix (781 + v1))) - 1)).1 (c + 1) (ix (781 + v1))) res 0 _ hf hk
  have hl : Fx q_Mo_ends 2 sh 28 [some (.ref c), some (.int v1), some (.int v2), some (.int ((upI hp (c + 1) (ix (781 + v1)) ((hp.1 (c + 1) (ix (781 + v1))) - 1)).1 (c + 1) (ix (781 + v1)))), some (.int 0)] [] (upI hp (c + 1) (ix (781 + v1)) ((hp.1 (c + 1) (ix (781 + v1))) - 1)) none res := hl
  exact Fx.le hl (And.intro rfl (And.intro rfl (And.intro rfl (And.intro rfl (And.intro rfl trivial)))))
