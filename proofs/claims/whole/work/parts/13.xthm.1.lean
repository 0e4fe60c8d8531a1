set_option maxHeartbeats 4000000 in
set_option maxRecDepth 20000 in
theorem t_Tr_forget (sh : Shp) (c : Nat) (hS : S_Tr sh c) (hp : HP)  (res : HP) (hf : f_Tr_forget c hp  = some res) : Ex 1 q_Tr_forget sh [.ref c] hp none res := by
  refine Ex.of [some (.ref c)] rfl (Nat.le_of_ble_eq_true rfl) (by decide +kernel) rfl ?_
  obtain ⟨t, hk⟩ : ∃ t, t = res := ⟨res, rfl⟩
  rw [← hk] at hf
  unfold f_Tr_forget at hf
  refine Fx.run [(.aload_n 0, 1, 0, 0, .null), (.iconst 0, 1, 0, 0, .int 0), (.putfield 18, 3, 6, 2, .null)] 5 (by decide +kernel) ?_
  show isK sh c 6 ∧ Fx q_Tr_forget 1 sh 5 [some (.ref c)] [] (upI hp c 2 0) none res
  refine ⟨hS.1, ?_⟩
  obtain rfl := Option.some.inj hf
  have hk : (upI hp c 2 0) = res := hk
  subst hk
  exact Fx.vret (by decide +kernel) rfl
set_option maxHeartbeats 4000000 in
set_option maxRecDepth 20000 in
theorem t_TJ_canBeSet (sh : Shp) (hp : HP) (v0 : Int32) (v1 : Int32) (res : Int32) (hf : f_TJ_canBeSet v0 v1 = some res) : Ex 1 q_TJ_canBeSet sh [.int v0, .int v1] hp (some (.int res)) hp := by
  refine Ex.of [some (.int v0), some (.int v1)] rfl (Nat.le_of_ble_eq_true rfl) (by decide +kernel) rfl ?_
  obtain ⟨t, hk⟩ : ∃ t, t = res := ⟨res, rfl⟩
  rw [← hk] at hf
  unfold f_TJ_canBeSet at hf
  refine Fx.run [(.iload_n 0, 1, 0, 0, .null)] 1 (by decide +kernel) ?_
  show Fx q_TJ_canBeSet 1 sh 1 [some (.int v0), some (.int v1)] [.int v0] hp (some (.int res)) hp
  refine Fx.if_ne (18) 19 4 (by decide +kernel) (fun b1 => ?_) (fun b1 => ?_)
  · replace hf := ifn b1 hf
    refine Fx.run [(.iload_n 0, 1, 0, 0, .null), (.iconst 1, 1, 0, 0, .int 1)] 21 (by decide +kernel) ?_
    show Fx q_TJ_canBeSet 1 sh 21 [some (.int v0), some (.int v1)] [.int 1, .int v0] hp (some (.int res)) hp
    refine Fx.icmp_ne (15) 36 24 (by decide +kernel) (fun b2 => ?_) (fun b2 => ?_)
    · replace hf := ifn b2 hf
      refine Fx.run [(.iconst 0, 1, 0, 0, .int 0)] 37 (by decide +kernel) ?_
      show Fx q_TJ_canBeSet 1 sh 37 [some (.int v0), some (.int v1)] [.int 0] hp (some (.int res)) hp
      obtain rfl := Option.some.inj hf
      have hk : 0 = res := hk
      subst hk
      exact Fx.zret (by decide +kernel) rfl (Or.inl rfl)
    · replace hf := ifp b2 hf
      refine Fx.run [(.iload_n 1, 1, 1, 0, .null), (.sipush (-2045), 3, 0, 0, .int (-2045)), (.iand, 1, 0, 0, .null)] 29 (by decide +kernel) ?_
      show Fx q_TJ_canBeSet 1 sh 29 [some (.int v0), some (.int v1)] [.int (v1 &&& (-2045))] hp (some (.int res)) hp
      refine Fx.if_ne (7) 36 32 (by decide +kernel) (fun b3 => ?_) (fun b3 => ?_)
      · replace hf := ifn b3 hf
        refine Fx.run [(.iconst 0, 1, 0, 0, .int 0)] 37 (by decide +kernel) ?_
        show Fx q_TJ_canBeSet 1 sh 37 [some (.int v0), some (.int v1)] [.int 0] hp (some (.int res)) hp
        obtain rfl := Option.some.inj hf
        have hk : 0 = res := hk
        subst hk
        exact Fx.zret (by decide +kernel) rfl (Or.inl rfl)
      · replace hf := ifp b3 hf
        refine Fx.run [(.iconst 1, 1, 0, 0, .int 1)] 33 (by decide +kernel) ?_
        show Fx q_TJ_canBeSet 1 sh 33 [some (.int v0), some (.int v1)] [.int 1] hp (some (.int res)) hp
        refine Fx.goto (4) 37 (by decide +kernel) ?_
        obtain rfl := Option.some.inj hf
        have hk : 1 = res := hk
        subst hk
        exact Fx.zret (by decide +kernel) rfl (Or.inr rfl)
  · replace hf := ifp b1 hf
    refine Fx.run [(.iload_n 1, 1, 1, 0, .null)] 5 (by decide +kernel) ?_
    show Fx q_TJ_canBeSet 1 sh 5 [some (.int v0), some (.int v1)] [.int v1] hp (some (.int res)) hp
    refine Fx.if_eq (8) 13 8 (by decide +kernel) (fun b4 => ?_) (fun b4 => ?_)
    · replace hf := ifp b4 hf
      refine Fx.run [(.iconst 1, 1, 0, 0, .int 1)] 14 (by decide +kernel) ?_
      show Fx q_TJ_canBeSet 1 sh 14 [some (.int v0), some (.int v1)] [.int 1] hp (some (.int res)) hp
      refine Fx.goto (4) 18 (by decide +kernel) ?_
      obtain rfl := Option.some.inj hf
      have hk : 1 = res := hk
      subst hk
      exact Fx.zret (by decide +kernel) rfl (Or.inr rfl)
    · replace hf := ifn b4 hf
      refine Fx.run [(.iload_n 1, 1, 1, 0, .null), (.iconst 1, 1, 0, 0, .int 1)] 10 (by decide +kernel) ?_
      show Fx q_TJ_canBeSet 1 sh 10 [some (.int v0), some (.int v1)] [.int 1, .int v1] hp (some (.int res)) hp
      refine Fx.icmp_ne (7) 17 13 (by decide +kernel) (fun b5 => ?_) (fun b5 => ?_)
      · replace hf := ifn b5 hf
        refine Fx.run [(.iconst 0, 1, 0, 0, .int 0)] 18 (by decide +kernel) ?_
        show Fx q_TJ_canBeSet 1 sh 18 [some (.int v0), some (.int v1)] [.int 0] hp (some (.int res)) hp
        obtain rfl := Option.some.inj hf
        have hk : 0 = res := hk
        subst hk
        exact Fx.zret (by decide +kernel) rfl (Or.inl rfl)
      · replace hf := ifp b5 hf
        refine Fx.run [(.iconst 1, 1, 0, 0, .int 1)] 14 (by decide +kernel) ?_
        show Fx q_TJ_canBeSet 1 sh 14 [some (.int v0), some (.int v1)] [.int 1] hp (some (.int res)) hp
        refine Fx.goto (4) 18 (by decide +kernel) ?_
        obtain rfl := Option.some.inj hf
        have hk : 1 = res := hk
        subst hk
        exact Fx.zret (by decide +kernel) rfl (Or.inr rfl)
set_option maxHeartbeats 4000000 in
set_option maxRecDepth 20000 in
theorem t_Tr_because (sh : Shp) (c : Nat) (hS : S_Tr sh c) (hp : HP) (v1 : Int32) (v2 : Int32) (res : HP) (hf : f_Tr_because c hp v1 v2 = some res) : Ex 1 q_Tr_because sh [.ref c, .int v1, .int v2] hp none res := by
  refine Ex.of [some (.ref c), some (.int v1), some (.int v2)] rfl (Nat.le_of_ble_eq_true rfl) (by decide +kernel) rfl ?_
  obtain ⟨t, hk⟩ : ∃ t, t = res := ⟨res, rfl⟩
  rw [← hk] at hf
  unfold f_Tr_because at hf
  refine Fx.run [(.aload_n 0, 1, 0, 0, .null), (.getfield 18, 3, 6, 2, .null), (.iconst 3, 1, 0, 0, .int 3)] 5 (by decide +kernel) ?_
  show isK sh c 6 ∧ Fx q_Tr_because 1 sh 5 [some (.ref c), some (.int v1), some (.int v2)] [.int 3, .int (hp.1 c 2)] hp none res
  refine ⟨hS.1, ?_⟩
  refine Fx.icmp_ge (33) 38 8 (by decide +kernel) (fun b1 => ?_) (fun b1 => ?_)
  · replace hf := ifp b1 hf
    obtain rfl := Option.some.inj hf
    have hk : hp = res := hk
    subst hk
    exact Fx.vret (by decide +kernel) rfl
  · replace hf := ifn b1 hf
    replace hf := gd hf
    obtain ⟨g2, hf⟩ := hf
    replace hf := gd hf
    obtain ⟨g3, hf⟩ := hf
    refine Fx.run [(.aload_n 0, 1, 0, 0, .null), (.getfield 9, 3, 6, 0, .ref 1), (.aload_n 0, 1, 0, 0, .null), (.getfield 18, 3, 6, 2, .null), (.iload_n 1, 1, 1, 0, .null), (.iastore, 1, 3, 0, .null), (.aload_n 0, 1, 0, 0, .null), (.getfield 15, 3, 6, 1, .ref 2), (.aload_n 0, 1, 0, 0, .null), (.getfield 18, 3, 6, 2, .null), (.iload_n 2, 1, 2, 0, .null), (.iastore, 1, 3, 0, .null), (.aload_n 0, 1, 0, 0, .null), (.dup, 1, 0, 0, .null), (.getfield 18, 3, 6, 2, .null), (.iconst 1, 1, 0, 0, .int 1), (.iadd, 1, 0, 0, .null), (.putfield 18, 3, 6, 2, .null)] 38 (by decide +kernel) ?_
    show isK sh c 6 ∧ isK sh c 6 ∧ (isA sh (c + 1) 10 3 ∧ inb (hp.1 c 2) 3) ∧ isK sh c 6 ∧ isK sh c 6 ∧ (isA sh (c + 2) 10 3 ∧ inb ((upI hp (c + 1) (ix (hp.1 c 2)) v1).1 c 2) 3) ∧ isK sh c 6 ∧ isK sh c 6 ∧ Fx q_Tr_because 1 sh 38 [some (.ref c), some (.int v1), some (.int v2)] [] (upI (upI (upI hp (c + 1) (ix (hp.1 c 2)) v1) (c + 2) (ix ((upI hp (c + 1) (ix (hp.1 c 2)) v1).1 c 2)) v2) c 2 (((upI (upI hp (c + 1) (ix (hp.1 c 2)) v1) (c + 2) (ix ((upI hp (c + 1) (ix (hp.1 c 2)) v1).1 c 2)) v2).1 c 2) + 1)) none res
    refine ⟨hS.1, hS.1, ⟨hS.2.1, g2⟩, hS.1, hS.1, ⟨hS.2.2, g3⟩, hS.1, hS.1, ?_⟩
    obtain rfl := Option.some.inj hf
    have hk : (upI (upI (upI hp (c + 1) (ix (hp.1 c 2)) v1) (c + 2) (ix ((upI hp (c + 1) (ix (hp.1 c 2)) v1).1 c 2)) v2) c 2 (((upI (upI hp (c + 1) (ix (hp.1 c 2)) v1) (c + 2) (ix ((upI hp (c + 1) (ix (hp.1 c 2)) v1).1 c 2)) v2).1 c 2) + 1)) = res := hk
    subst hk
    exact Fx.vret (by decide +kernel) rfl
set_option maxHeartbeats 4000000 in
set_option maxRecDepth 20000 in
theorem t_TJ_set (sh : Shp) (c : Nat) (hS : S_TJ sh c) (hp : HP) (v1 : Int32) (v2 : Int32) (res : (HP × Int32)) (hf : f_TJ_set c hp v1 v2 = some res) : Ex 2 q_TJ_set sh [.ref c, .int v1, .int v2] hp (some (.int res.2)) res.1 := by
  refine Ex.of [some (.ref c), some (.int v1), some (.int v2)] rfl (Nat.le_of_ble_eq_true rfl) (by decide +kernel) rfl ?_
  obtain ⟨t, hk⟩ : ∃ t, t = res := ⟨res, rfl⟩
  rw [← hk] at hf
  unfold f_TJ_set at hf
  refine Fx.run [(.aload_n 0, 1, 0, 0, .null), (.getfield 12, 3, 8, 0, .ref 1), (.getfield 41, 3, 5, 3, .ref 19)] 7 (by decide +kernel) ?_
  show isK sh c 8 ∧ isK sh (c + 1) 5 ∧ Fx q_TJ_set 2 sh 7 [some (.ref c), some (.int v1), some (.int v2)] [.ref ((c + 1) + 19)] hp (some (.int res.2)) res.1
  refine ⟨hS.1, hS.2.1.1, ?_⟩
  replace hf := bnd hf
  obtain ⟨h2, hr1, hf⟩ := hf
  refine Fx.callV (rr := none) (hp1 := h2) [] [] lk_8_45 (by decide +kernel) (t_Tr_forget sh ((c + 1) + 19) (hS.2.1.2.2.2.2.1) hp h2 hr1) ⟨Nat.le_of_ble_eq_true rfl, Nat.le_of_ble_eq_true rfl⟩ (hS.2.1.2.2.2.2.1).1 (by decide) rfl (Nat.le_of_ble_eq_true rfl) ?_
  show Fx q_TJ_set 2 sh 10 [some (.ref c), some (.int v1), some (.int v2)] [] h2 (some (.int res.2)) res.1
  refine Fx.run [(.iload_n 1, 1, 1, 0, .null), (.iload_n 2, 1, 2, 0, .null)] 12 (by decide +kernel) ?_
  show Fx q_TJ_set 2 sh 12 [some (.ref c), some (.int v1), some (.int v2)] [.int v2, .int v1] h2 (some (.int res.2)) res.1
  replace hf := bnd hf
  obtain ⟨r3, hr3, hf⟩ := hf
  refine Fx.callS (rr := (some (.int r3))) (hp1 := h2) [.int v1, .int v2] [] lk_8_50 (by decide +kernel) (t_TJ_canBeSet sh h2 v1 v2 r3 hr3) ⟨Nat.le_of_ble_eq_true rfl, Nat.le_of_ble_eq_true rfl⟩ rfl (Nat.le_of_ble_eq_true rfl) ?_
  show Fx q_TJ_set 2 sh 15 [some (.ref c), some (.int v1), some (.int v2)] [.int r3] h2 (some (.int res.2)) res.1
  refine Fx.if_ne (18) 33 18 (by decide +kernel) (fun b4 => ?_) (fun b4 => ?_)
  · replace hf := ifn b4 hf
    refine Fx.run [(.aload_n 0, 1, 0, 0, .null), (.getfield 12, 3, 8, 0, .ref 1), (.getfield 58, 3, 5, 4, .ref 22), (.getfield 62, 3, 1, 3, .null)] 43 (by decide +kernel) ?_
    show isK sh c 8 ∧ isK sh (c + 1) 5 ∧ isK sh ((c + 1) + 22) 1 ∧ Fx q_TJ_set 2 sh 43 [some (.ref c), some (.int v1), some (.int v2)] [.int (h2.1 ((c + 1) + 22) 3)] h2 (some (.int res.2)) res.1
    refine ⟨hS.1, hS.2.1.1, hS.2.1.2.2.2.2.2.1.1, ?_⟩
    refine Fx.if_eq (40) 83 46 (by decide +kernel) (fun b5 => ?_) (fun b5 => ?_)
    · replace hf := ifp b5 hf
      refine Fx.run [(.iload_n 1, 1, 1, 0, .null)] 84 (by decide +kernel) ?_
      show Fx q_TJ_set 2 sh 84 [some (.ref c), some (.int v1), some (.int v2)] [.int v1] h2 (some (.int res.2)) res.1
      refine Fx.if_ne (23) 107 87 (by decide +kernel) (fun b6 => ?_) (fun b6 => ?_)
      · replace hf := ifn b6 hf
        refine Fx.run [(.aload_n 0, 1, 0, 0, .null), (.getfield 12, 3, 8, 0, .ref 1), (.iload_n 2, 1, 2, 0, .null), (.putfield 75, 3, 5, 7, .null), (.iconst 1, 1, 0, 0, .int 1)] 116 (by decide +kernel) ?_
        show isK sh c 8 ∧ isK sh (c + 1) 5 ∧ Fx q_TJ_set 2 sh 116 [some (.ref c), some (.int v1), some (.int v2)] [.int 1] (upI h2 (c + 1) 7 v2) (some (.int res.2)) res.1
        refine ⟨hS.1, hS.2.1.1, ?_⟩
        obtain rfl := Option.some.inj hf
        have hk : ((upI h2 (c + 1) 7 v2), 1) = res := hk
        subst hk
        exact Fx.zret (by decide +kernel) rfl (Or.inr rfl)
      · replace hf := ifp b6 hf
        refine Fx.run [(.aload_n 0, 1, 0, 0, .null), (.getfield 12, 3, 8, 0, .ref 1), (.iload_n 2, 1, 2, 0, .null), (.iconst 1, 1, 0, 0, .int 1)] 93 (by decide +kernel) ?_
        show isK sh c 8 ∧ Fx q_TJ_set 2 sh 93 [some (.ref c), some (.int v1), some (.int v2)] [.int 1, .int v2, .ref (c + 1)] h2 (some (.int res.2)) res.1
        refine ⟨hS.1, ?_⟩
        refine Fx.icmp_ne (7) 100 96 (by decide +kernel) (fun b7 => ?_) (fun b7 => ?_)
        · replace hf := ifn b7 hf
          refine Fx.run [(.iconst 0, 1, 0, 0, .int 0), (.putfield 72, 3, 5, 6, .int 1)] 104 (by decide +kernel) ?_
          show isK sh (c + 1) 5 ∧ ((0 : Int32) = 0 ∨ (0 : Int32) = 1) ∧ Fx q_TJ_set 2 sh 104 [some (.ref c), some (.int v1), some (.int v2)] [] (upI h2 (c + 1) 6 0) (some (.int res.2)) res.1
          refine ⟨hS.2.1.1, (Or.inl rfl), ?_⟩
          refine Fx.goto (11) 115 (by decide +kernel) ?_
          refine Fx.run [(.iconst 1, 1, 0, 0, .int 1)] 116 (by decide +kernel) ?_
          show Fx q_TJ_set 2 sh 116 [some (.ref c), some (.int v1), some (.int v2)] [.int 1] (upI h2 (c + 1) 6 0) (some (.int res.2)) res.1
          obtain rfl := Option.some.inj hf
          have hk : ((upI h2 (c + 1) 6 0), 1) = res := hk
          subst hk
          exact Fx.zret (by decide +kernel) rfl (Or.inr rfl)
        · replace hf := ifp b7 hf
          refine Fx.run [(.iconst 1, 1, 0, 0, .int 1)] 97 (by decide +kernel) ?_
          show Fx q_TJ_set 2 sh 97 [some (.ref c), some (.int v1), some (.int v2)] [.int 1, .ref (c + 1)] h2 (some (.int res.2)) res.1
          refine Fx.goto (4) 101 (by decide +kernel) ?_
          refine Fx.run [(.putfield 72, 3, 5, 6, .int 1)] 104 (by decide +kernel) ?_
          show isK sh (c + 1) 5 ∧ ((1 : Int32) = 0 ∨ (1 : Int32) = 1) ∧ Fx q_TJ_set 2 sh 104 [some (.ref c), some (.int v1), some (.int v2)] [] (upI h2 (c + 1) 6 1) (some (.int res.2)) res.1
          refine ⟨hS.2.1.1, (Or.inr rfl), ?_⟩
          refine Fx.goto (11) 115 (by decide +kernel) ?_
          refine Fx.run [(.iconst 1, 1, 0, 0, .int 1)] 116 (by decide +kernel) ?_
          show Fx q_TJ_set 2 sh 116 [some (.ref c), some (.int v1), some (.int v2)] [.int 1] (upI h2 (c + 1) 6 1) (some (.int res.2)) res.1
          obtain rfl := Option.some.inj hf
          have hk : ((upI h2 (c + 1) 6 1), 1) = res := hk
          subst hk
          exact Fx.zret (by decide +kernel) rfl (Or.inr rfl)
    · replace hf := ifn b5 hf
      refine Fx.run [(.aload_n 0, 1, 0, 0, .null), (.getfield 12, 3, 8, 0, .ref 1), (.getfield 41, 3, 5, 3, .ref 19), (.bipush 9, 2, 0, 0, .int 9), (.iload_n 1, 1, 1, 0, .null)] 56 (by decide +kernel) ?_
      show isK sh c 8 ∧ isK sh (c + 1) 5 ∧ Fx q_TJ_set 2 sh 56 [some (.ref c), some (.int v1), some (.int v2)] [.int v1, .int 9, .ref ((c + 1) + 19)] h2 (some (.int res.2)) res.1
      refine ⟨hS.1, hS.2.1.1, ?_⟩
      replace hf := bnd hf
      obtain ⟨h9, hr8, hf⟩ := hf
      refine Fx.callV (rr := none) (hp1 := h9) [.int 9, .int v1] [] lk_8_54 (by decide +kernel) (t_Tr_because sh ((c + 1) + 19) (hS.2.1.2.2.2.2.1) h2 9 v1 h9 hr8) ⟨Nat.le_of_ble_eq_true rfl, Nat.le_of_ble_eq_true rfl⟩ (hS.2.1.2.2.2.2.1).1 (by decide) rfl (Nat.le_of_ble_eq_true rfl) ?_
      show Fx q_TJ_set 2 sh 59 [some (.ref c), some (.int v1), some (.int v2)] [] h9 (some (.int res.2)) res.1
      refine Fx.run [(.aload_n 0, 1, 0, 0, .null), (.getfield 12, 3, 8, 0, .ref 1), (.getfield 41, 3, 5, 3, .ref 19), (.bipush 8, 2, 0, 0, .int 8), (.aload_n 0, 1, 0, 0, .null), (.getfield 12, 3, 8, 0, .ref 1), (.getfield 58, 3, 5, 4, .ref 22), (.getfield 68, 3, 1, 2, .null)] 78 (by decide +kernel) ?_
      show isK sh c 8 ∧ isK sh (c + 1) 5 ∧ isK sh c 8 ∧ isK sh (c + 1) 5 ∧ isK sh ((c + 1) + 22) 1 ∧ Fx q_TJ_set 2 sh 78 [some (.ref c), some (.int v1), some (.int v2)] [.int (h9.1 ((c + 1) + 22) 2), .int 8, .ref ((c + 1) + 19)] h9 (some (.int res.2)) res.1
      refine ⟨hS.1, hS.2.1.1, hS.1, hS.2.1.1, hS.2.1.2.2.2.2.2.1.1, ?_⟩
      replace hf := bnd hf
      obtain ⟨h11, hr10, hf⟩ := hf
      refine Fx.callV (rr := none) (hp1 := h11) [.int 8, .int (h9.1 ((c + 1) + 22) 2)] [] lk_8_54 (by decide +kernel) (t_Tr_because sh ((c + 1) + 19) (hS.2.1.2.2.2.2.1) h9 8 (h9.1 ((c + 1) + 22) 2) h11 hr10) ⟨Nat.le_of_ble_eq_true rfl, Nat.le_of_ble_eq_true rfl⟩ (hS.2.1.2.2.2.2.1).1 (by decide) rfl (Nat.le_of_ble_eq_true rfl) ?_
      show Fx q_TJ_set 2 sh 81 [some (.ref c), some (.int v1), some (.int v2)] [] h11 (some (.int res.2)) res.1
      refine Fx.run [(.iconst 0, 1, 0, 0, .int 0)] 82 (by decide +kernel) ?_
      show Fx q_TJ_set 2 sh 82 [some (.ref c), some (.int v1), some (.int v2)] [.int 0] h11 (some (.int res.2)) res.1
      obtain rfl := Option.some.inj hf
      have hk : (h11, 0) = res := hk
      subst hk
      exact Fx.zret (by decide +kernel) rfl (Or.inl rfl)
  · replace hf := ifp b4 hf
    refine Fx.run [(.aload_n 0, 1, 0, 0, .null), (.getfield 12, 3, 8, 0, .ref 1), (.getfield 41, 3, 5, 3, .ref 19), (.bipush 9, 2, 0, 0, .int 9), (.iload_n 1, 1, 1, 0, .null)] 28 (by decide +kernel) ?_
    show isK sh c 8 ∧ isK sh (c + 1) 5 ∧ Fx q_TJ_set 2 sh 28 [some (.ref c), some (.int v1), some (.int v2)] [.int v1, .int 9, .ref ((c + 1) + 19)] h2 (some (.int res.2)) res.1
    refine ⟨hS.1, hS.2.1.1, ?_⟩
    replace hf := bnd hf
    obtain ⟨h13, hr12, hf⟩ := hf
    refine Fx.callV (rr := none) (hp1 := h13) [.int 9, .int v1] [] lk_8_54 (by decide +kernel) (t_Tr_because sh ((c + 1) + 19) (hS.2.1.2.2.2.2.1) h2 9 v1 h13 hr12) ⟨Nat.le_of_ble_eq_true rfl, Nat.le_of_ble_eq_true rfl⟩ (hS.2.1.2.2.2.2.1).1 (by decide) rfl (Nat.le_of_ble_eq_true rfl) ?_
    show Fx q_TJ_set 2 sh 31 [some (.ref c), some (.int v1), some (.int v2)] [] h13 (some (.int res.2)) res.1
    refine Fx.run [(.iconst 0, 1, 0, 0, .int 0)] 32 (by decide +kernel) ?_
    show Fx q_TJ_set 2 sh 32 [some (.ref c), some (.int v1), some (.int v2)] [.int 0] h13 (some (.int res.2)) res.1
    obtain rfl := Option.some.inj hf
    have hk : (h13, 0) = res := hk
    subst hk
    exact Fx.zret (by decide +kernel) rfl (Or.inl rfl)
set_option maxHeartbeats 4000000 in
set_option maxRecDepth 20000 in
theorem t_Ro_append (sh : Shp) (c : Nat) (hS : S_Ro sh c) (hp : HP) (v1 : Int32) (v2 : Int32) (v3 : Int32) (v4 : Int32) (v5 : Int32) (res : (HP × Int32)) (hf : f_Ro_append c hp v1 v2 v3 v4 v5 = some res) : Ex 1 q_Ro_append sh [.ref c, .int v1, .int v2, .int v3, .int v4, .int v5] hp (some (.int res.2)) res.1 := by
  refine Ex.of [some (.ref c), some (.int v1), some (.int v2), some (.int v3), some (.int v4), some (.int v5)] rfl (Nat.le_of_ble_eq_true rfl) (by decide +kernel) rfl ?_
  obtain ⟨t, hk⟩ : ∃ t, t = res := ⟨res, rfl⟩
  rw [← hk] at hf
  unfold f_Ro_append at hf
  refine Fx.run [(.aload_n 0, 1, 0, 0, .null), (.getfield 27, 3, 4, 5, .null), (.bipush 40, 2, 0, 0, .int 40)] 6 (by decide +kernel) ?_
  show isK sh c 4 ∧ Fx q_Ro_append 1 sh 6 [some (.ref c), some (.int v1), some (.int v2), some (.int v3), some (.int v4), some (.int v5)] [.int 40, .int (hp.1 c 5)] hp (some (.int res.2)) res.1
  refine ⟨hS.1, ?_⟩
  refine Fx.icmp_lt (5) 11 9 (by decide +kernel) (fun b1 => ?_) (fun b1 => ?_)
  · replace hf := ifp b1 hf
    replace hf := gd hf
    obtain ⟨g2, hf⟩ := hf
    replace hf := gd hf
    obtain ⟨g3, hf⟩ := hf
    replace hf := gd hf
    obtain ⟨g4, hf⟩ := hf
    replace hf := gd hf
    obtain ⟨g5, hf⟩ := hf
    replace hf := gd hf
    obtain ⟨g6, hf⟩ := hf
    refine Fx.run [(.aload_n 0, 1, 0, 0, .null), (.getfield 9, 3, 4, 0, .ref 1), (.aload_n 0, 1, 0, 0, .null), (.getfield 27, 3, 4, 5, .null), (.iload_n 1, 1, 1, 0, .null), (.iastore, 1, 40, 0, .null), (.aload_n 0, 1, 0, 0, .null), (.getfield 15, 3, 4, 1, .ref 2), (.aload_n 0, 1, 0, 0, .null), (.getfield 27, 3, 4, 5, .null), (.iload_n 2, 1, 2, 0, .null), (.iastore, 1, 40, 0, .null), (.aload_n 0, 1, 0, 0, .null), (.getfield 18, 3, 4, 2, .ref 3), (.aload_n 0, 1, 0, 0, .null), (.getfield 27, 3, 4, 5, .null), (.iload_n 3, 1, 3, 0, .null), (.iastore, 1, 40, 0, .null), (.aload_n 0, 1, 0, 0, .null), (.getfield 21, 3, 4, 3, .ref 4), (.aload_n 0, 1, 0, 0, .null), (.getfield 27, 3, 4, 5, .null), (.iload 4, 2, 4, 0, .null), (.iastore, 1, 40, 0, .null), (.aload_n 0, 1, 0, 0, .null), (.getfield 24, 3, 4, 4, .ref 5), (.aload_n 0, 1, 0, 0, .null), (.getfield 27, 3, 4, 5, .null), (.iload 5, 2, 5, 0, .null), (.iastore, 1, 40, 0, .null), (.aload_n 0, 1, 0, 0, .null), (.dup, 1, 0, 0, .null), (.getfield 27, 3, 4, 5, .null), (.iconst 1, 1, 0, 0, .int 1), (.iadd, 1, 0, 0, .null), (.putfield 27, 3, 4, 5, .null), (.iconst 1, 1, 0, 0, .int 1)] 74 (by decide +kernel) ?_
    show isK sh c 4 ∧ isK sh c 4 ∧ (isA sh (c + 1) 10 40 ∧ inb (hp.1 c 5) 40) ∧ isK sh c 4 ∧ isK sh c 4 ∧ (isA sh (c + 2) 10 40 ∧ inb ((upI hp (c + 1) (ix (hp.1 c 5)) v1).1 c 5) 40) ∧ isK sh c 4 ∧ isK sh c 4 ∧ (isA sh (c + 3) 10 40 ∧ inb ((upI (upI hp (c + 1) (ix (hp.1 c 5)) v1) (c + 2) (ix ((upI hp (c + 1) (ix (hp.1 c 5)) v1).1 c 5)) v2).1 c 5) 40) ∧ isK sh c 4 ∧ isK sh c 4 ∧ (isA sh (c + 4) 10 40 ∧ inb ((upI (upI (upI hp (c + 1) (ix (hp.1 c 5)) v1) (c + 2) (ix ((upI hp (c + 1) (ix (hp.1 c 5)) v1).1 c 5)) v2) (c + 3) (ix ((upI (upI hp (c + 1) (ix (hp.1 c 5)) v1) (c + 2) (ix ((upI hp (c + 1) (ix (hp.1 c 5)) v1).1 c 5)) v2).1 c 5)) v3).1 c 5) 40) ∧ isK sh c 4 ∧ isK sh c 4 ∧ (isA sh (c + 5) 10 40 ∧ inb ((upI (upI (upI (upI hp (c + 1) (ix (hp.1 c 5)) v1) (c + 2) (ix ((upI hp (c + 1) (ix (hp.1 c 5)) v1).1 c 5)) v2) (c + 3) (ix ((upI (upI hp (c + 1) (ix (hp.1 c 5)) v1) (c + 2) (ix ((upI hp (c + 1) (ix (hp.1 c 5)) v1).1 c 5)) v2).1 c 5)) v3) (c + 4) (ix ((upI (upI (upI hp (c + 1) (ix (hp.1 c 5)) v1) (c + 2) (ix ((upI hp (c + 1) (ix (hp.1 c 5)) v1).1 c 5)) v2) (c + 3) (ix ((upI (upI hp (c + 1) (ix (hp.1 c 5)) v1) (c + 2) (ix ((upI hp (c + 1) (ix (hp.1 c 5)) v1).1 c 5)) v2).1 c 5)) v3).1 c 5)) v4).1 c 5) 40) ∧ isK sh c 4 ∧ isK sh c 4 ∧ Fx q_Ro_append 1 sh 74 [some (.ref c), some (.int v1), some (.int v2), some (.int v3), some (.int v4), some (.int v5)] [.int 1] (upI (upI (upI (upI (upI (upI hp (c + 1) (ix (hp.1 c 5)) v1) (c + 2) (ix ((upI hp (c + 1) (ix (hp.1 c 5)) v1).1 c 5)) v2) (c + 3) (ix ((upI (upI hp (c + 1) (ix (hp.1 c 5)) v1) (c + 2) (ix ((upI hp (c + 1) (ix (hp.1 c 5)) v1).1 c 5)) v2).1 c 5)) v3) (c + 4) (ix ((upI (upI (upI hp (c + 1) (ix (hp.1 c 5)) v1) (c + 2) (ix ((upI hp (c + 1) (ix (hp.1 c 5)) v1).1 c 5)) v2) (c + 3) (ix ((upI (upI hp (c + 1) (ix (hp.1 c 5)) v1) (c + 2) (ix ((upI hp (c + 1) (ix (hp.1 c 5)) v1).1 c 5)) v2).1 c 5)) v3).1 c 5)) v4) (c + 5) (ix ((upI (upI (upI (upI hp (c + 1) (ix (hp.1 c 5)) v1) (c + 2) (ix ((upI hp (c + 1) (ix (hp.1 c 5)) v1).1 c 5)) v2) (c + 3) (ix ((upI (upI hp (c + 1) (ix (hp.1 c 5)) v1) (c + 2) (ix ((upI hp (c + 1) (ix (hp.1 c 5)) v1).1 c 5)) v2).1 c 5)) v3) (c + 4) (ix ((upI (upI (upI hp (c + 1) (ix (hp.1 c 5)) v1) (c + 2) (ix ((upI hp (c + 1) (ix (hp.1 c 5)) v1).1 c 5)) v2) (c + 3) (ix ((upI (upI hp (c + 1) (ix (hp.1 c 5)) v1) (c + 2) (ix ((upI hp (c + 1) (ix (hp.1 c 5)) v1).1 c 5)) v2).1 c 5)) v3).1 c 5)) v4).1 c 5)) v5) c 5 (((upI (upI (upI (upI (upI hp (c + 1) (ix (hp.1 c 5)) v1) (c + 2) (ix ((upI hp (c + 1) (ix (hp.1 c 5)) v1).1 c 5)) v2) (c + 3) (ix ((upI (upI hp (c + 1) (ix (hp.1 c 5)) v1) (c + 2) (ix ((upI hp (c + 1) (ix (hp.1 c 5)) v1).1 c 5)) v2).1 c 5)) v3) (c + 4) (ix ((upI (upI (upI hp (c + 1) (ix (hp.1 c 5)) v1) (c + 2) (ix ((upI hp (c + 1) (ix (hp.1 c 5)) v1).1 c 5)) v2) (c + 3) (ix ((upI (upI hp (c + 1) (ix (hp.1 c 5)) v1) (c + 2) (ix ((upI hp (c + 1) (ix (hp.1 c 5)) v1).1 c 5)) v2).1 c 5)) v3).1 c 5)) v4) (c + 5) (ix ((upI (upI (upI (upI hp (c + 1) (ix (hp.1 c 5)) v1) (c + 2) (ix ((upI hp (c + 1) (ix (hp.1 c 5)) v1).1 c 5)) v2) (c + 3) (ix ((upI (upI hp (c + 1) (ix (hp.1 c 5)) v1) (c + 2) (ix ((upI hp (c + 1) (ix (hp.1 c 5)) v1).1 c 5)) v2).1 c 5)) v3) (c + 4) (ix ((upI (upI (upI hp (c + 1) (ix (hp.1 c 5)) v1) (c + 2) (ix ((upI hp (c + 1) (ix (hp.1 c 5)) v1).1 c 5)) v2) (c + 3) (ix ((upI (upI hp (c + 1) (ix (hp.1 c 5)) v1) (c + 2) (ix ((upI hp (c + 1) (ix (hp.1 c 5)) v1).1 c 5)) v2).1 c 5)) v3).1 c 5)) v4).1 c 5)) v5).1 c 5) + 1)) (some (.int res.2)) res.1
    refine ⟨hS.1, hS.1, ⟨hS.2.1, g2⟩, hS.1, hS.1, ⟨hS.2.2.1, g3⟩, hS.1, hS.1, ⟨hS.2.2.2.1, g4⟩, hS.1, hS.1, ⟨hS.2.2.2.2.1, g5⟩, hS.1, hS.1, ⟨hS.2.2.2.2.2, g6⟩, hS.1, hS.1, ?_⟩
    obtain rfl := Option.some.inj hf
    have hk : ((upI (upI (upI (upI (upI (upI hp (c + 1) (ix (hp.1 c 5)) v1) (c + 2) (ix ((upI hp (c + 1) (ix (hp.1 c 5)) v1).1 c 5)) v2) (c + 3) (ix ((upI (upI hp (c + 1) (ix (hp.1 c 5)) v1) (c + 2) (ix ((upI hp (c + 1) (ix (hp.1 c 5)) v1).1 c 5)) v2).1 c 5)) v3) (c + 4) (ix ((upI (upI (upI hp (c + 1) (ix (hp.1 c 5)) v1) (c + 2) (ix ((upI hp (c + 1) (ix (hp.1 c 5)) v1).1 c 5)) v2) (c + 3) (ix ((upI (upI hp (c + 1) (ix (hp.1 c 5)) v1) (c + 2) (ix ((upI hp (c + 1) (ix (hp.1 c 5)) v1).1 c 5)) v2).1 c 5)) v3).1 c 5)) v4) (c + 5) (ix ((upI (upI (upI (upI hp (c + 1) (ix (hp.1 c 5)) v1) (c + 2) (ix ((upI hp (c + 1) (ix (hp.1 c 5)) v1).1 c 5)) v2) (c + 3) (ix ((upI (upI hp (c + 1) (ix (hp.1 c 5)) v1) (c + 2) (ix ((upI hp (c + 1) (ix (hp.1 c 5)) v1).1 c 5)) v2).1 c 5)) v3) (c + 4) (ix ((upI (upI (upI hp (c + 1) (ix (hp.1 c 5)) v1) (c + 2) (ix ((upI hp (c + 1) (ix (hp.1 c 5)) v1).1 c 5)) v2) (c + 3) (ix ((upI (upI hp (c + 1) (ix (hp.1 c 5)) v1) (c + 2) (ix ((upI hp (c + 1) (ix (hp.1 c 5)) v1).1 c 5)) v2).1 c 5)) v3).1 c 5)) v4).1 c 5)) v5) c 5 (((upI (upI (upI (upI (upI hp (c + 1) (ix (hp.1 c 5)) v1) (c + 2) (ix ((upI hp (c + 1) (ix (hp.1 c 5)) v1).1 c 5)) v2) (c + 3) (ix ((upI (upI hp (c + 1) (ix (hp.1 c 5)) v1) (c + 2) (ix ((upI hp (c + 1) (ix (hp.1 c 5)) v1).1 c 5)) v2).1 c 5)) v3) (c + 4) (ix ((upI (upI (upI hp (c + 1) (ix (hp.1 c 5)) v1) (c + 2) (ix ((upI hp (c + 1) (ix (hp.1 c 5)) v1).1 c 5)) v2) (c + 3) (ix ((upI (upI hp (c + 1) (ix (hp.1 c 5)) v1) (c + 2) (ix ((upI hp (c + 1) (ix (hp.1 c 5)) v1).1 c 5)) v2).1 c 5)) v3).1 c 5)) v4) (c + 5) (ix ((upI (upI (upI (upI hp (c + 1) (ix (hp.1 c 5)) v1) (c + 2) (ix ((upI hp (c + 1) (ix (hp.1 c 5)) v1).1 c 5)) v2) (c + 3) (ix ((upI (upI hp (c + 1) (ix (hp.1 c 5)) v1) (c + 2) (ix ((upI hp (c + 1) (ix (hp.1 c 5)) v1).1 c 5)) v2).1 c 5)) v3) (c + 4) (ix ((upI (upI (upI hp (c + 1) (ix (hp.1 c 5)) v1) (c + 2) (ix ((upI hp (c + 1) (ix (hp.1 c 5)) v1).1 c 5)) v2) (c + 3) (ix ((upI (upI hp (c + 1) (ix (hp.1 c 5)) v1) (c + 2) (ix ((upI hp (c + 1) (ix (hp.1 c 5)) v1).1 c 5)) v2).1 c 5)) v3).1 c 5)) v4).1 c 5)) v5).1 c 5) + 1)), 1) = res := hk
    subst hk
    exact Fx.zret (by decide +kernel) rfl (Or.inr rfl)
  · replace hf := ifn b1 hf
    refine Fx.run [(.iconst 0, 1, 0, 0, .int 0)] 10 (by decide +kernel) ?_
    show Fx q_Ro_append 1 sh 10 [some (.ref c), some (.int v1), some (.int v2), some (.int v3), some (.int v4), some (.int v5)] [.int 0] hp (some (.int res.2)) res.1
    obtain rfl := Option.some.inj hf
    have hk : (hp, 0) = res := hk
    subst hk
    exact Fx.zret (by decide +kernel) rfl (Or.inl rfl)
set_option maxHeartbeats 4000000 in
set_option maxRecDepth 20000 in
theorem t_TJ_batch (sh : Shp) (c : Nat) (hS : S_TJ sh c) (hp : HP) (v1 : Int32) (v2 : Int32) (v3 : Int32) (v4 : Int32) (v5 : Int32) (res : (HP × Int32)) (hf : f_TJ_batch c hp v1 v2 v3 v4 v5 = some res) : Ex 2 q_TJ_batch sh [.ref c, .int v1, .int v2, .int v3, .int v4, .int v5] hp (some (.int res.2)) res.1 := by
  refine Ex.of [some (.ref c), some (.int v1), some (.int v2), some (.int v3), some (.int v4), some (.int v5)] rfl (Nat.le_of_ble_eq_true rfl) (by decide +kernel) rfl ?_
  obtain ⟨t, hk⟩ : ∃ t, t = res := ⟨res, rfl⟩
  rw [← hk] at hf
  unfold f_TJ_batch at hf
  refine Fx.run [(.aload_n 0, 1, 0, 0, .null), (.getfield 12, 3, 8, 0, .ref 1), (.getfield 78, 3, 5, 2, .ref 13), (.iload_n 1, 1, 1, 0, .null), (.iload_n 2, 1, 2, 0, .null), (.iload_n 3, 1, 3, 0, .null), (.iload 4, 2, 4, 0, .null), (.iload 5, 2, 5, 0, .null)] 14 (by decide +kernel) ?_
  show isK sh c 8 ∧ isK sh (c + 1) 5 ∧ Fx q_TJ_batch 2 sh 14 [some (.ref c), some (.int v1), some (.int v2), some (.int v3), some (.int v4), some (.int v5)] [.int v5, .int v4, .int v3, .int v2, .int v1, .ref ((c + 1) + 13)] hp (some (.int res.2)) res.1
  refine ⟨hS.1, hS.2.1.1, ?_⟩
  replace hf := bnd hf
  obtain ⟨⟨h2, r1⟩, hr1, hf⟩ := hf
  dsimp only at hf
  refine Fx.callV (rr := (some (.int r1))) (hp1 := h2) [.int v1, .int v2, .int v3, .int v4, .int v5] [] lk_8_82 (by decide +kernel) (t_Ro_append sh ((c + 1) + 13) (hS.2.1.2.2.2.1) hp v1 v2 v3 v4 v5 (h2, r1) hr1) ⟨Nat.le_of_ble_eq_true rfl, Nat.le_of_ble_eq_true rfl⟩ (hS.2.1.2.2.2.1).1 (by decide) rfl (Nat.le_of_ble_eq_true rfl) ?_
  show Fx q_TJ_batch 2 sh 17 [some (.ref c), some (.int v1), some (.int v2), some (.int v3), some (.int v4), some (.int v5)] [.int r1] h2 (some (.int res.2)) res.1
  refine Fx.if_eq (16) 33 20 (by decide +kernel) (fun b3 => ?_) (fun b3 => ?_)
  · replace hf := ifp b3 hf
    refine Fx.run [(.iconst (-1), 1, 0, 0, .int (-1))] 34 (by decide +kernel) ?_
    show Fx q_TJ_batch 2 sh 34 [some (.ref c), some (.int v1), some (.int v2), some (.int v3), some (.int v4), some (.int v5)] [.int (-1)] h2 (some (.int res.2)) res.1
    obtain rfl := Option.some.inj hf
    have hk : (h2, (-1)) = res := hk
    subst hk
    exact Fx.iret (by decide +kernel) rfl
  · replace hf := ifn b3 hf
    refine Fx.run [(.aload_n 0, 1, 0, 0, .null), (.getfield 12, 3, 8, 0, .ref 1), (.getfield 78, 3, 5, 2, .ref 13), (.getfield 88, 3, 4, 5, .null)] 30 (by decide +kernel) ?_
    show isK sh c 8 ∧ isK sh (c + 1) 5 ∧ isK sh ((c + 1) + 13) 4 ∧ Fx q_TJ_batch 2 sh 30 [some (.ref c), some (.int v1), some (.int v2), some (.int v3), some (.int v4), some (.int v5)] [.int (h2.1 ((c + 1) + 13) 5)] h2 (some (.int res.2)) res.1
    refine ⟨hS.1, hS.2.1.1, hS.2.1.2.2.2.1.1, ?_⟩
    refine Fx.goto (4) 34 (by decide +kernel) ?_
    obtain rfl := Option.some.inj hf
    have hk : (h2, (h2.1 ((c + 1) + 13) 5)) = res := hk
    subst hk
    exact Fx.iret (by decide +kernel) rfl
set_option maxHeartbeats 4000000 in
set_option maxRecDepth 20000 in
theorem t_TJ_clear (sh : Shp) (c : Nat) (hS : S_TJ sh c) (hp : HP)  (res : (HP × Int32)) (hf : f_TJ_clear c hp  = some res) : Ex 1 q_TJ_clear sh [.ref c] hp (some (.int res.2)) res.1 := by
  refine Ex.of [some (.ref c), none] rfl (Nat.le_of_ble_eq_true rfl) (by decide +kernel) rfl ?_
  obtain ⟨t, hk⟩ : ∃ t, t = res := ⟨res, rfl⟩
  rw [← hk] at hf
  unfold f_TJ_clear at hf
  refine Fx.run [(.aload_n 0, 1, 0, 0, .null), (.getfield 12, 3, 8, 0, .ref 1), (.getfield 78, 3, 5, 2, .ref 13), (.getfield 88, 3, 4, 5, .null), (.istore_n 1, 1, 1, 0, .null), (.aload_n 0, 1, 0, 0, .null), (.getfield 12, 3, 8, 0, .ref 1), (.getfield 78, 3, 5, 2, .ref 13), (.iconst 0, 1, 0, 0, .int 0), (.putfield 88, 3, 4, 5, .null), (.iload_n 1, 1, 1, 0, .null)] 23 (by decide +kernel) ?_
  show isK sh c 8 ∧ isK sh (c + 1) 5 ∧ isK sh ((c + 1) + 13) 4 ∧ isK sh c 8 ∧ isK sh (c + 1) 5 ∧ isK sh ((c + 1) + 13) 4 ∧ Fx q_TJ_clear 1 sh 23 [some (.ref c), some (.int (hp.1 ((c + 1) + 13) 5))] [.int (hp.1 ((c + 1) + 13) 5)] (upI hp ((c + 1) + 13) 5 0) (some (.int res.2)) res.1
  refine ⟨hS.1, hS.2.1.1, hS.2.1.2.2.2.1.1, hS.1, hS.2.1.1, hS.2.1.2.2.2.1.1, ?_⟩
  obtain rfl := Option.some.inj hf
  have hk : ((upI hp ((c + 1) + 13) 5 0), (hp.1 ((c + 1) + 13) 5)) = res := hk
  subst hk
  exact Fx.iret (by decide +kernel) rfl
set_option maxHeartbeats 4000000 in
set_option maxRecDepth 20000 in
theorem t_TJ_isSide (sh : Shp) (hp : HP) (v0 : Int32) (res : Int32) (hf : f_TJ_isSide v0 = some res) : Ex 1 q_TJ_isSide sh [.int v0] hp (some (.int res)) hp := by
  refine Ex.of [some (.int v0)] rfl (Nat.le_of_ble_eq_true rfl) (by decide +kernel) rfl ?_
  obtain ⟨t, hk⟩ : ∃ t, t = res := ⟨res, rfl⟩
  rw [← hk] at hf
  unfold f_TJ_isSide at hf
  refine Fx.run [(.iload_n 0, 1, 0, 0, .null)] 1 (by decide +kernel) ?_
  show Fx q_TJ_isSide 1 sh 1 [some (.int v0)] [.int v0] hp (some (.int res)) hp
  refine Fx.if_eq (8) 9 4 (by decide +kernel) (fun b1 => ?_) (fun b1 => ?_)
  · replace hf := ifp b1 hf
    refine Fx.run [(.iconst 1, 1, 0, 0, .int 1)] 10 (by decide +kernel) ?_
    show Fx q_TJ_isSide 1 sh 10 [some (.int v0)] [.int 1] hp (some (.int res)) hp
    refine Fx.goto (4) 14 (by decide +kernel) ?_
    obtain rfl := Option.some.inj hf
    have hk : 1 = res := hk
    subst hk
    exact Fx.zret (by decide +kernel) rfl (Or.inr rfl)
  · replace hf := ifn b1 hf
    refine Fx.run [(.iload_n 0, 1, 0, 0, .null), (.iconst 1, 1, 0, 0, .int 1)] 6 (by decide +kernel) ?_
    show Fx q_TJ_isSide 1 sh 6 [some (.int v0)] [.int 1, .int v0] hp (some (.int res)) hp
    refine Fx.icmp_ne (7) 13 9 (by decide +kernel) (fun b2 => ?_) (fun b2 => ?_)
    · replace hf := ifn b2 hf
      refine Fx.run [(.iconst 0, 1, 0, 0, .int 0)] 14 (by decide +kernel) ?_
      show Fx q_TJ_isSide 1 sh 14 [some (.int v0)] [.int 0] hp (some (.int res)) hp
      obtain rfl := Option.some.inj hf
      have hk : 0 = res := hk
      subst hk
      exact Fx.zret (by decide +kernel) rfl (Or.inl rfl)
    · replace hf := ifp b2 hf
      refine Fx.run [(.iconst 1, 1, 0, 0, .int 1)] 10 (by decide +kernel) ?_
      show Fx q_TJ_isSide 1 sh 10 [some (.int v0)] [.int 1] hp (some (.int res)) hp
      refine Fx.goto (4) 14 (by decide +kernel) ?_
      obtain rfl := Option.some.inj hf
      have hk : 1 = res := hk
      subst hk
      exact Fx.zret (by decide +kernel) rfl (Or.inr rfl)
set_option maxHeartbeats 4000000 in
set_option maxRecDepth 20000 in
theorem t_St_rowsOf (sh : Shp) (c : Nat) (hS : S_St sh c) (hp : HP) (v1 : Int32) (res : Nat) (hf : f_St_rowsOf c hp v1 = some res) : Ex 1 q_St_rowsOf sh [.ref c, .int v1] hp (some (.ref res)) hp := by
  refine Ex.of [some (.ref c), some (.int v1)] rfl (Nat.le_of_ble_eq_true rfl) (by decide +kernel) rfl ?_
  obtain ⟨t, hk⟩ : ∃ t, t = res := ⟨res, rfl⟩
  rw [← hk] at hf
  unfold f_St_rowsOf at hf
  refine Fx.run [(.iload_n 1, 1, 1, 0, .null)] 1 (by decide +kernel) ?_
  show Fx q_St_rowsOf 1 sh 1 [some (.ref c), some (.int v1)] [.int v1] hp (some (.ref res)) hp
  refine Fx.if_ne (10) 11 4 (by decide +kernel) (fun b1 => ?_) (fun b1 => ?_)
  · replace hf := ifn b1 hf
    refine Fx.run [(.aload_n 0, 1, 0, 0, .null), (.getfield 18, 3, 5, 1, .ref 7)] 15 (by decide +kernel) ?_
    show isK sh c 5 ∧ Fx q_St_rowsOf 1 sh 15 [some (.ref c), some (.int v1)] [.ref (c + 7)] hp (some (.ref res)) hp
    refine ⟨hS.1, ?_⟩
    obtain rfl := Option.some.inj hf
    have hk : (c + 7) = res := hk
    subst hk
    exact Fx.aret (by decide +kernel) rfl
  · replace hf := ifp b1 hf
    refine Fx.run [(.aload_n 0, 1, 0, 0, .null), (.getfield 12, 3, 5, 0, .ref 1)] 8 (by decide +kernel) ?_
    show isK sh c 5 ∧ Fx q_St_rowsOf 1 sh 8 [some (.ref c), some (.int v1)] [.ref (c + 1)] hp (some (.ref res)) hp
    refine ⟨hS.1, ?_⟩
    refine Fx.goto (7) 15 (by decide +kernel) ?_
    obtain rfl := Option.some.inj hf
    have hk : (c + 1) = res := hk
    subst hk
    exact Fx.aret (by decide +kernel) rfl
set_option maxHeartbeats 4000000 in
set_option maxRecDepth 20000 in
theorem t_TJ_isKey (sh : Shp) (hp : HP) (v0 : Int32) (res : Int32) (hf : f_TJ_isKey v0 = some res) : Ex 1 q_TJ_isKey sh [.int v0] hp (some (.int res)) hp := by
  refine Ex.of [some (.int v0)] rfl (Nat.le_of_ble_eq_true rfl) (by decide +kernel) rfl ?_
  obtain ⟨t, hk⟩ : ∃ t, t = res := ⟨res, rfl⟩
  rw [← hk] at hf
  unfold f_TJ_isKey at hf
  refine Fx.run [(.iload_n 0, 1, 0, 0, .null)] 1 (by decide +kernel) ?_
  show Fx q_TJ_isKey 1 sh 1 [some (.int v0)] [.int v0] hp (some (.int res)) hp
  refine Fx.if_lt (13) 14 4 (by decide +kernel) (fun b1 => ?_) (fun b1 => ?_)
  · replace hf := ifp b1 hf
    refine Fx.run [(.iconst 0, 1, 0, 0, .int 0)] 15 (by decide +kernel) ?_
    show Fx q_TJ_isKey 1 sh 15 [some (.int v0)] [.int 0] hp (some (.int res)) hp
    obtain rfl := Option.some.inj hf
    have hk : 0 = res := hk
    subst hk
    exact Fx.zret (by decide +kernel) rfl (Or.inl rfl)
  · replace hf := ifn b1 hf
    refine Fx.run [(.iload_n 0, 1, 0, 0, .null), (.bipush 10, 2, 0, 0, .int 10)] 7 (by decide +kernel) ?_
    show Fx q_TJ_isKey 1 sh 7 [some (.int v0)] [.int 10, .int v0] hp (some (.int res)) hp
    refine Fx.icmp_ge (7) 14 10 (by decide +kernel) (fun b2 => ?_) (fun b2 => ?_)
    · replace hf := ifp b2 hf
      refine Fx.run [(.iconst 0, 1, 0, 0, .int 0)] 15 (by decide +kernel) ?_
      show Fx q_TJ_isKey 1 sh 15 [some (.int v0)] [.int 0] hp (some (.int res)) hp
      obtain rfl := Option.some.inj hf
      have hk : 0 = res := hk
      subst hk
      exact Fx.zret (by decide +kernel) rfl (Or.inl rfl)
    · replace hf := ifn b2 hf
      refine Fx.run [(.iconst 1, 1, 0, 0, .int 1)] 11 (by decide +kernel) ?_
      show Fx q_TJ_isKey 1 sh 11 [some (.int v0)] [.int 1] hp (some (.int res)) hp
      refine Fx.goto (4) 15 (by decide +kernel) ?_
      obtain rfl := Option.some.inj hf
      have hk : 1 = res := hk
      subst hk
      exact Fx.zret (by decide +kernel) rfl (Or.inr rfl)
set_option maxHeartbeats 4000000 in
set_option maxRecDepth 20000 in
theorem t_Ro_spanFault (sh : Shp) (hp : HP) (v0 : Int32) (v1 : Int32) (res : Int32) (hf : f_Ro_spanFault v0 v1 = some res) : Ex 1 q_Ro_spanFault sh [.int v0, .int v1] hp (some (.int res)) hp := by
  refine Ex.of [some (.int v0), some (.int v1)] rfl (Nat.le_of_ble_eq_true rfl) (by decide +kernel) rfl ?_
  obtain ⟨t, hk⟩ : ∃ t, t = res := ⟨res, rfl⟩
  rw [← hk] at hf
  unfold f_Ro_spanFault at hf
  refine Fx.run [(.iload_n 0, 1, 0, 0, .null), (.ldc 49, 2, 0, 0, .int (-1000000))] 3 (by decide +kernel) ?_
  show Fx q_Ro_spanFault 1 sh 3 [some (.int v0), some (.int v1)] [.int (-1000000), .int v0] hp (some (.int res)) hp
  refine Fx.icmp_lt (9) 12 6 (by decide +kernel) (fun b1 => ?_) (fun b1 => ?_)
  · replace hf := ifp b1 hf
    refine Fx.run [(.iconst 1, 1, 0, 0, .int 1)] 13 (by decide +kernel) ?_
    show Fx q_Ro_spanFault 1 sh 13 [some (.int v0), some (.int v1)] [.int 1] hp (some (.int res)) hp
    obtain rfl := Option.some.inj hf
    have hk : 1 = res := hk
    subst hk
    exact Fx.iret (by decide +kernel) rfl
  · replace hf := ifn b1 hf
    refine Fx.run [(.iload_n 0, 1, 0, 0, .null), (.ldc 50, 2, 0, 0, .int 1000000)] 9 (by decide +kernel) ?_
    show Fx q_Ro_spanFault 1 sh 9 [some (.int v0), some (.int v1)] [.int 1000000, .int v0] hp (some (.int res)) hp
    refine Fx.icmp_le (5) 14 12 (by decide +kernel) (fun b2 => ?_) (fun b2 => ?_)
    · replace hf := ifp b2 hf
      refine Fx.run [(.iload_n 1, 1, 1, 0, .null), (.ldc 49, 2, 0, 0, .int (-1000000))] 17 (by decide +kernel) ?_
      show Fx q_Ro_spanFault 1 sh 17 [some (.int v0), some (.int v1)] [.int (-1000000), .int v1] hp (some (.int res)) hp
      refine Fx.icmp_lt (9) 26 20 (by decide +kernel) (fun b3 => ?_) (fun b3 => ?_)
      · replace hf := ifp b3 hf
        refine Fx.run [(.iconst 2, 1, 0, 0, .int 2)] 27 (by decide +kernel) ?_
        show Fx q_Ro_spanFault 1 sh 27 [some (.int v0), some (.int v1)] [.int 2] hp (some (.int res)) hp
        obtain rfl := Option.some.inj hf
        have hk : 2 = res := hk
        subst hk
        exact Fx.iret (by decide +kernel) rfl
      · replace hf := ifn b3 hf
        refine Fx.run [(.iload_n 1, 1, 1, 0, .null), (.ldc 50, 2, 0, 0, .int 1000000)] 23 (by decide +kernel) ?_
        show Fx q_Ro_spanFault 1 sh 23 [some (.int v0), some (.int v1)] [.int 1000000, .int v1] hp (some (.int res)) hp
        refine Fx.icmp_le (5) 28 26 (by decide +kernel) (fun b4 => ?_) (fun b4 => ?_)
        · replace hf := ifp b4 hf
          refine Fx.run [(.iload_n 1, 1, 1, 0, .null), (.iload_n 0, 1, 0, 0, .null)] 30 (by decide +kernel) ?_
          show Fx q_Ro_spanFault 1 sh 30 [some (.int v0), some (.int v1)] [.int v0, .int v1] hp (some (.int res)) hp
          refine Fx.icmp_ge (7) 37 33 (by decide +kernel) (fun b5 => ?_) (fun b5 => ?_)
          · replace hf := ifp b5 hf
            refine Fx.run [(.iconst 0, 1, 0, 0, .int 0)] 38 (by decide +kernel) ?_
            show Fx q_Ro_spanFault 1 sh 38 [some (.int v0), some (.int v1)] [.int 0] hp (some (.int res)) hp
            obtain rfl := Option.some.inj hf
            have hk : 0 = res := hk
            subst hk
            exact Fx.iret (by decide +kernel) rfl
          · replace hf := ifn b5 hf
            refine Fx.run [(.iconst 3, 1, 0, 0, .int 3)] 34 (by decide +kernel) ?_
            show Fx q_Ro_spanFault 1 sh 34 [some (.int v0), some (.int v1)] [.int 3] hp (some (.int res)) hp
            refine Fx.goto (4) 38 (by decide +kernel) ?_
            obtain rfl := Option.some.inj hf
            have hk : 3 = res := hk
            subst hk
            exact Fx.iret (by decide +kernel) rfl
        · replace hf := ifn b4 hf
          refine Fx.run [(.iconst 2, 1, 0, 0, .int 2)] 27 (by decide +kernel) ?_
          show Fx q_Ro_spanFault 1 sh 27 [some (.int v0), some (.int v1)] [.int 2] hp (some (.int res)) hp
          obtain rfl := Option.some.inj hf
          have hk : 2 = res := hk
          subst hk
          exact Fx.iret (by decide +kernel) rfl
    · replace hf := ifn b2 hf
      refine Fx.run [(.iconst 1, 1, 0, 0, .int 1)] 13 (by decide +kernel) ?_
      show Fx q_Ro_spanFault 1 sh 13 [some (.int v0), some (.int v1)] [.int 1] hp (some (.int res)) hp
      obtain rfl := Option.some.inj hf
      have hk : 1 = res := hk
      subst hk
      exact Fx.iret (by decide +kernel) rfl
abbrev P_Ro_lastStart_7 (sh : Shp) (c : Nat) (hp : HP) (v1 : Int32) (res : Int32) : (Int32) → Prop := fun s => Fx q_Ro_lastStart 1 sh 7 [some (.ref c), some (.int v1), some (.int s)] [] hp (some (.int res)) hp
set_option maxHeartbeats 4000000 in
set_option maxRecDepth 20000 in
theorem t_Ro_lastStart_l7 (sh : Shp) (c : Nat) (hS : S_Ro sh c) (hp : HP) (v1 : Int32) (res : Int32) : ∀ (s : (Int32)) (t : Int32), f_Ro_lastStart_l7 c hp v1 s = some t → (fun v => v = res) t → P_Ro_lastStart_7 sh c hp v1 res s := by
  refine loop_ind (P_Ro_lastStart_7 sh c hp v1 res) (fun v => v = res) ?_
  intro s t hf hk
  revert hf hk; revert s; intro v2 hf hk
  replace hf : f_Ro_lastStart_b7 c hp v1 v2 = some t := hf
  show Fx q_Ro_lastStart 1 sh 7 [some (.ref c), some (.int v1), some (.int v2)] [] hp (some (.int res)) hp
  unfold f_Ro_lastStart_b7 at hf
  refine Fx.run [(.iload_n 2, 1, 2, 0, .null)] 8 (by decide +kernel) ?_
  show Fx q_Ro_lastStart 1 sh 8 [some (.ref c), some (.int v1), some (.int v2)] [.int v2] hp (some (.int res)) hp
  refine Fx.if_lt (26) 34 11 (by decide +kernel) (fun b1 => ?_) (fun b1 => ?_)
  · replace hf := ifp b1 hf
    replace hf := mpd hf
    obtain ⟨t, hf, rfl⟩ := hf
    refine Fx.run [(.ldc 49, 2, 0, 0, .int (-1000000))] 36 (by decide +kernel) ?_
    show Fx q_Ro_lastStart 1 sh 36 [some (.ref c), some (.int v1), some (.int v2)] [.int (-1000000)] hp (some (.int res)) hp
    obtain rfl := Option.some.inj hf
    have hk : (-1000000) = res := hk
    subst hk
    exact Fx.iret (by decide +kernel) rfl
  · replace hf := ifn b1 hf
    replace hf := gd hf
    obtain ⟨g2, hf⟩ := hf
    refine Fx.run [(.aload_n 0, 1, 0, 0, .null), (.getfield 9, 3, 4, 0, .ref 1), (.iload_n 2, 1, 2, 0, .null), (.iaload, 1, 40, 0, .null), (.iload_n 1, 1, 1, 0, .null)] 18 (by decide +kernel) ?_
    show isK sh c 4 ∧ (isA sh (c + 1) 10 40 ∧ inb v2 40) ∧ Fx q_Ro_lastStart 1 sh 18 [some (.ref c), some (.int v1), some (.int v2)] [.int v1, .int (hp.1 (c + 1) (ix v2))] hp (some (.int res)) hp
    refine ⟨hS.1, ⟨hS.2.1, g2⟩, ?_⟩
    refine Fx.icmp_ne (10) 28 21 (by decide +kernel) (fun b3 => ?_) (fun b3 => ?_)
    · replace hf := ifn b3 hf
      refine Fx.run [(.iinc 2 (-1), 3, 2, 0, .int (-1))] 31 (by decide +kernel) ?_
      show Fx q_Ro_lastStart 1 sh 31 [some (.ref c), some (.int v1), some (.int (v2 + (-1)))] [] hp (some (.int res)) hp
      refine Fx.goto (-24) 7 (by decide +kernel) ?_
      obtain rfl := Option.some.inj hf
      have hk : Fx q_Ro_lastStart 1 sh 7 [some (.ref c), some (.int v1), some (.int (v2 + (-1)))] [] hp (some (.int res)) hp := hk
      exact Fx.le hk (And.intro rfl (And.intro rfl (And.intro rfl trivial)))
    · replace hf := ifp b3 hf
      replace hf := mpd hf
      obtain ⟨t, hf, rfl⟩ := hf
      replace hf := gd hf
      obtain ⟨g4, hf⟩ := hf
      refine Fx.run [(.aload_n 0, 1, 0, 0, .null), (.getfield 18, 3, 4, 2, .ref 3), (.iload_n 2, 1, 2, 0, .null), (.iaload, 1, 40, 0, .null)] 27 (by decide +kernel) ?_
      show isK sh c 4 ∧ (isA sh (c + 3) 10 40 ∧ inb v2 40) ∧ Fx q_Ro_lastStart 1 sh 27 [some (.ref c), some (.int v1), some (.int v2)] [.int (hp.1 (c + 3) (ix v2))] hp (some (.int res)) hp
      refine ⟨hS.1, ⟨hS.2.2.2.1, g4⟩, ?_⟩
      obtain rfl := Option.some.inj hf
      have hk : (hp.1 (c + 3) (ix v2)) = res := hk
      subst hk
      exact Fx.iret (by decide +kernel) rfl
set_option maxHeartbeats 4000000 in
set_option maxRecDepth 20000 in
theorem t_Ro_lastStart (sh : Shp) (c : Nat) (hS : S_Ro sh c) (hp : HP) (v1 : Int32) (res : Int32) (hf : f_Ro_lastStart c hp v1 = some res) : Ex 1 q_Ro_lastStart sh [.ref c, .int v1] hp (some (.int res)) hp := by
  refine Ex.of [some (.ref c), some (.int v1), none] rfl (Nat.le_of_ble_eq_true rfl) (by decide +kernel) rfl ?_
  obtain ⟨t, hk⟩ : ∃ t, t = res := ⟨res, rfl⟩
  rw [← hk] at hf
  unfold f_Ro_lastStart at hf
  refine Fx.run [(.aload_n 0, 1, 0, 0, .null), (.getfield 27, 3, 4, 5, .null), (.iconst 1, 1, 0, 0, .int 1), (.isub, 1, 0, 0, .null), (.istore_n 2, 1, 2, 0, .null)] 7 (by decide +kernel) ?_
  show isK sh c 4 ∧ Fx q_Ro_lastStart 1 sh 7 [some (.ref c), some (.int v1), some (.int ((hp.1 c 5) - 1))] [] hp (some (.int res)) hp
  refine ⟨hS.1, ?_⟩
  have hl := t_Ro_lastStart_l7 sh c hS hp v1 res ((hp.1 c 5) - 1) _ hf hk
  have hl : Fx q_Ro_lastStart 1 sh 7 [some (.ref c), some (.int v1), some (.int ((hp.1 c 5) - 1))] [] hp (some (.int res)) hp := hl
  exact Fx.le hl (And.intro rfl (And.intro rfl (And.intro rfl trivial)))
set_option maxHeartbeats 4000000 in
set_option maxRecDepth 20000 in
theorem t_Ro_faultOf (sh : Shp) (c : Nat) (hS : S_Ro sh c) (hp : HP) (v1 : Int32) (v2 : Int32) (v3 : Int32) (v4 : Int32) (res : Int32) (hf : f_Ro_faultOf c hp v1 v2 v3 v4 = some res) : Ex 2 q_Ro_faultOf sh [.ref c, .int v1, .int v2, .int v3, .int v4] hp (some (.int res)) hp := by
  refine Ex.of [some (.ref c), some (.int v1), some (.int v2), some (.int v3), some (.int v4)] rfl (Nat.le_of_ble_eq_true rfl) (by decide +kernel) rfl ?_
  obtain ⟨t, hk⟩ : ∃ t, t = res := ⟨res, rfl⟩
  rw [← hk] at hf
  unfold f_Ro_faultOf at hf
  refine Fx.run [(.aload_n 0, 1, 0, 0, .null), (.getfield 27, 3, 4, 5, .null), (.bipush 40, 2, 0, 0, .int 40)] 6 (by decide +kernel) ?_
  show isK sh c 4 ∧ Fx q_Ro_faultOf 2 sh 6 [some (.ref c), some (.int v1), some (.int v2), some (.int v3), some (.int v4)] [.int 40, .int (hp.1 c 5)] hp (some (.int res)) hp
  refine ⟨hS.1, ?_⟩
  refine Fx.icmp_lt (6) 12 9 (by decide +kernel) (fun b1 => ?_) (fun b1 => ?_)
  · replace hf := ifp b1 hf
    refine Fx.run [(.iload_n 1, 1, 1, 0, .null)] 13 (by decide +kernel) ?_
    show Fx q_Ro_faultOf 2 sh 13 [some (.ref c), some (.int v1), some (.int v2), some (.int v3), some (.int v4)] [.int v1] hp (some (.int res)) hp
    refine Fx.if_lt (8) 21 16 (by decide +kernel) (fun b2 => ?_) (fun b2 => ?_)
    · replace hf := ifp b2 hf
      refine Fx.run [(.iconst 3, 1, 0, 0, .int 3)] 22 (by decide +kernel) ?_
      show Fx q_Ro_faultOf 2 sh 22 [some (.ref c), some (.int v1), some (.int v2), some (.int v3), some (.int v4)] [.int 3] hp (some (.int res)) hp
      obtain rfl := Option.some.inj hf
      have hk : 3 = res := hk
      subst hk
      exact Fx.iret (by decide +kernel) rfl
    · replace hf := ifn b2 hf
      refine Fx.run [(.iload_n 1, 1, 1, 0, .null), (.iconst 4, 1, 0, 0, .int 4)] 18 (by decide +kernel) ?_
      show Fx q_Ro_faultOf 2 sh 18 [some (.ref c), some (.int v1), some (.int v2), some (.int v3), some (.int v4)] [.int 4, .int v1] hp (some (.int res)) hp
      refine Fx.icmp_lt (5) 23 21 (by decide +kernel) (fun b3 => ?_) (fun b3 => ?_)
      · replace hf := ifp b3 hf
        refine Fx.run [(.iload_n 2, 1, 2, 0, .null)] 24 (by decide +kernel) ?_
        show Fx q_Ro_faultOf 2 sh 24 [some (.ref c), some (.int v1), some (.int v2), some (.int v3), some (.int v4)] [.int v2] hp (some (.int res)) hp
        replace hf := bnd hf
        obtain ⟨r4, hr4, hf⟩ := hf
        refine Fx.callN (rr := (some (.int r4))) (hp1 := hp) [.int v2] [] lk_4_37 (by decide +kernel) (t_TJ_isKey sh hp v2 r4 hr4) ⟨Nat.le_of_ble_eq_true rfl, Nat.le_of_ble_eq_true rfl⟩ rfl (Nat.le_of_ble_eq_true rfl) ?_
        show Fx q_Ro_faultOf 2 sh 27 [some (.ref c), some (.int v1), some (.int v2), some (.int v3), some (.int v4)] [.int r4] hp (some (.int res)) hp
        refine Fx.if_ne (5) 32 30 (by decide +kernel) (fun b5 => ?_) (fun b5 => ?_)
        · replace hf := ifn b5 hf
          refine Fx.run [(.iload_n 3, 1, 3, 0, .null), (.iload 4, 2, 4, 0, .null)] 35 (by decide +kernel) ?_
          show Fx q_Ro_faultOf 2 sh 35 [some (.ref c), some (.int v1), some (.int v2), some (.int v3), some (.int v4)] [.int v4, .int v3] hp (some (.int res)) hp
          replace hf := bnd hf
          obtain ⟨r6, hr6, hf⟩ := hf
          refine Fx.callS (rr := (some (.int r6))) (hp1 := hp) [.int v3, .int v4] [] lk_4_41 (by decide +kernel) (t_Ro_spanFault sh hp v3 v4 r6 hr6) ⟨Nat.le_of_ble_eq_true rfl, Nat.le_of_ble_eq_true rfl⟩ rfl (Nat.le_of_ble_eq_true rfl) ?_
          show Fx q_Ro_faultOf 2 sh 38 [some (.ref c), some (.int v1), some (.int v2), some (.int v3), some (.int v4)] [.int r6] hp (some (.int res)) hp
          refine Fx.if_eq (5) 43 41 (by decide +kernel) (fun b7 => ?_) (fun b7 => ?_)
          · replace hf := ifp b7 hf
            refine Fx.run [(.iload_n 3, 1, 3, 0, .null), (.aload_n 0, 1, 0, 0, .null), (.iload_n 1, 1, 1, 0, .null)] 46 (by decide +kernel) ?_
            show Fx q_Ro_faultOf 2 sh 46 [some (.ref c), some (.int v1), some (.int v2), some (.int v3), some (.int v4)] [.int v1, .ref c, .int v3] hp (some (.int res)) hp
            replace hf := bnd hf
            obtain ⟨r8, hr8, hf⟩ := hf
            refine Fx.callV (rr := (some (.int r8))) (hp1 := hp) [.int v1] [.int v3] lk_4_45 (by decide +kernel) (t_Ro_lastStart sh c (hS) hp v1 r8 hr8) ⟨Nat.le_of_ble_eq_true rfl, Nat.le_of_ble_eq_true rfl⟩ (hS).1 (by decide) rfl (Nat.le_of_ble_eq_true rfl) ?_
            show Fx q_Ro_faultOf 2 sh 49 [some (.ref c), some (.int v1), some (.int v2), some (.int v3), some (.int v4)] [.int r8, .int v3] hp (some (.int res)) hp
            refine Fx.icmp_ge (8) 57 52 (by decide +kernel) (fun b9 => ?_) (fun b9 => ?_)
            · replace hf := ifp b9 hf
              refine Fx.run [(.iconst 0, 1, 0, 0, .int 0)] 58 (by decide +kernel) ?_
              show Fx q_Ro_faultOf 2 sh 58 [some (.ref c), some (.int v1), some (.int v2), some (.int v3), some (.int v4)] [.int 0] hp (some (.int res)) hp
              obtain rfl := Option.some.inj hf
              have hk : 0 = res := hk
              subst hk
              exact Fx.iret (by decide +kernel) rfl
            · replace hf := ifn b9 hf
              refine Fx.run [(.bipush 6, 2, 0, 0, .int 6)] 54 (by decide +kernel) ?_
              show Fx q_Ro_faultOf 2 sh 54 [some (.ref c), some (.int v1), some (.int v2), some (.int v3), some (.int v4)] [.int 6] hp (some (.int res)) hp
              refine Fx.goto (4) 58 (by decide +kernel) ?_
              obtain rfl := Option.some.inj hf
              have hk : 6 = res := hk
              subst hk
              exact Fx.iret (by decide +kernel) rfl
          · replace hf := ifn b7 hf
            refine Fx.run [(.iconst 5, 1, 0, 0, .int 5)] 42 (by decide +kernel) ?_
            show Fx q_Ro_faultOf 2 sh 42 [some (.ref c), some (.int v1), some (.int v2), some (.int v3), some (.int v4)] [.int 5] hp (some (.int res)) hp
            obtain rfl := Option.some.inj hf
            have hk : 5 = res := hk
            subst hk
            exact Fx.iret (by decide +kernel) rfl
        · replace hf := ifp b5 hf
          refine Fx.run [(.iconst 4, 1, 0, 0, .int 4)] 31 (by decide +kernel) ?_
          show Fx q_Ro_faultOf 2 sh 31 [some (.ref c), some (.int v1), some (.int v2), some (.int v3), some (.int v4)] [.int 4] hp (some (.int res)) hp
          obtain rfl := Option.some.inj hf
          have hk : 4 = res := hk
          subst hk
          exact Fx.iret (by decide +kernel) rfl
      · replace hf := ifn b3 hf
        refine Fx.run [(.iconst 3, 1, 0, 0, .int 3)] 22 (by decide +kernel) ?_
        show Fx q_Ro_faultOf 2 sh 22 [some (.ref c), some (.int v1), some (.int v2), some (.int v3), some (.int v4)] [.int 3] hp (some (.int res)) hp
        obtain rfl := Option.some.inj hf
        have hk : 3 = res := hk
        subst hk
        exact Fx.iret (by decide +kernel) rfl
  · replace hf := ifn b1 hf
    refine Fx.run [(.bipush 7, 2, 0, 0, .int 7)] 11 (by decide +kernel) ?_
    show Fx q_Ro_faultOf 2 sh 11 [some (.ref c), some (.int v1), some (.int v2), some (.int v3), some (.int v4)] [.int 7] hp (some (.int res)) hp
    obtain rfl := Option.some.inj hf
    have hk : 7 = res := hk
    subst hk
    exact Fx.iret (by decide +kernel) rfl
set_option maxHeartbeats 4000000 in
set_option maxRecDepth 20000 in
theorem t_Ro_measureOf (sh : Shp) (c : Nat) (hS : S_Ro sh c) (hp : HP) (v1 : Int32) (v2 : Int32) (v3 : Int32) (v4 : Int32) (v5 : Int32) (res : Int32) (hf : f_Ro_measureOf c hp v1 v2 v3 v4 v5 = some res) : Ex 2 q_Ro_measureOf sh [.ref c, .int v1, .int v2, .int v3, .int v4, .int v5] hp (some (.int res)) hp := by
  refine Ex.of [some (.ref c), some (.int v1), some (.int v2), some (.int v3), some (.int v4), some (.int v5)] rfl (Nat.le_of_ble_eq_true rfl) (by decide +kernel) rfl ?_
  obtain ⟨t, hk⟩ : ∃ t, t = res := ⟨res, rfl⟩
  rw [← hk] at hf
  unfold f_Ro_measureOf at hf
  refine Fx.run [(.iload_n 1, 1, 1, 0, .null)] 1 (by decide +kernel) ?_
  show Fx q_Ro_measureOf 2 sh 1 [some (.ref c), some (.int v1), some (.int v2), some (.int v3), some (.int v4), some (.int v5)] [.int v1] hp (some (.int res)) hp
  by_cases b4 : v1 = 3
  · replace hf := ifp b4 hf
    refine Fx.swX 3 41 b4 (by decide +kernel) ?_
    refine Fx.run [(.iload_n 2, 1, 2, 0, .null)] 42 (by decide +kernel) ?_
    show Fx q_Ro_measureOf 2 sh 42 [some (.ref c), some (.int v1), some (.int v2), some (.int v3), some (.int v4), some (.int v5)] [.int v2] hp (some (.int res)) hp
    obtain rfl := Option.some.inj hf
    have hk : v2 = res := hk
    subst hk
    exact Fx.iret (by decide +kernel) rfl
  replace hf := ifn b4 hf
  by_cases b5 : v1 = 4
  · replace hf := ifp b5 hf
    refine Fx.swX 4 43 b5 (by decide +kernel) ?_
    refine Fx.run [(.iload_n 3, 1, 3, 0, .null)] 44 (by decide +kernel) ?_
    show Fx q_Ro_measureOf 2 sh 44 [some (.ref c), some (.int v1), some (.int v2), some (.int v3), some (.int v4), some (.int v5)] [.int v3] hp (some (.int res)) hp
    obtain rfl := Option.some.inj hf
    have hk : v3 = res := hk
    subst hk
    exact Fx.iret (by decide +kernel) rfl
  replace hf := ifn b5 hf
  by_cases b6 : v1 = 5
  · replace hf := ifp b6 hf
    refine Fx.swX 5 45 b6 (by decide +kernel) ?_
    refine Fx.run [(.iload 4, 2, 4, 0, .null), (.iload 5, 2, 5, 0, .null)] 49 (by decide +kernel) ?_
    show Fx q_Ro_measureOf 2 sh 49 [some (.ref c), some (.int v1), some (.int v2), some (.int v3), some (.int v4), some (.int v5)] [.int v5, .int v4] hp (some (.int res)) hp
    replace hf := bnd hf
    obtain ⟨r1, hr1, hf⟩ := hf
    refine Fx.callS (rr := (some (.int r1))) (hp1 := hp) [.int v4, .int v5] [] lk_4_41 (by decide +kernel) (t_Ro_spanFault sh hp v4 v5 r1 hr1) ⟨Nat.le_of_ble_eq_true rfl, Nat.le_of_ble_eq_true rfl⟩ rfl (Nat.le_of_ble_eq_true rfl) ?_
    show Fx q_Ro_measureOf 2 sh 52 [some (.ref c), some (.int v1), some (.int v2), some (.int v3), some (.int v4), some (.int v5)] [.int r1] hp (some (.int res)) hp
    obtain rfl := Option.some.inj hf
    have hk : r1 = res := hk
    subst hk
    exact Fx.iret (by decide +kernel) rfl
  replace hf := ifn b6 hf
  by_cases b7 : v1 = 6
  · replace hf := ifp b7 hf
    refine Fx.swX 6 53 b7 (by decide +kernel) ?_
    refine Fx.run [(.aload_n 0, 1, 0, 0, .null), (.iload_n 2, 1, 2, 0, .null)] 55 (by decide +kernel) ?_
    show Fx q_Ro_measureOf 2 sh 55 [some (.ref c), some (.int v1), some (.int v2), some (.int v3), some (.int v4), some (.int v5)] [.int v2, .ref c] hp (some (.int res)) hp
    replace hf := bnd hf
    obtain ⟨r2, hr2, hf⟩ := hf
    refine Fx.callV (rr := (some (.int r2))) (hp1 := hp) [.int v2] [] lk_4_45 (by decide +kernel) (t_Ro_lastStart sh c (hS) hp v2 r2 hr2) ⟨Nat.le_of_ble_eq_true rfl, Nat.le_of_ble_eq_true rfl⟩ (hS).1 (by decide) rfl (Nat.le_of_ble_eq_true rfl) ?_
    show Fx q_Ro_measureOf 2 sh 58 [some (.ref c), some (.int v1), some (.int v2), some (.int v3), some (.int v4), some (.int v5)] [.int r2] hp (some (.int res)) hp
    refine Fx.run [(.iload 4, 2, 4, 0, .null), (.isub, 1, 0, 0, .null)] 61 (by decide +kernel) ?_
    show Fx q_Ro_measureOf 2 sh 61 [some (.ref c), some (.int v1), some (.int v2), some (.int v3), some (.int v4), some (.int v5)] [.int (r2 - v4)] hp (some (.int res)) hp
    obtain rfl := Option.some.inj hf
    have hk : (r2 - v4) = res := hk
    subst hk
    exact Fx.iret (by decide +kernel) rfl
  replace hf := ifn b7 hf
  by_cases b8 : v1 = 7
  · replace hf := ifp b8 hf
    refine Fx.swX 7 36 b8 (by decide +kernel) ?_
    refine Fx.run [(.aload_n 0, 1, 0, 0, .null), (.getfield 27, 3, 4, 5, .null)] 40 (by decide +kernel) ?_
    show isK sh c 4 ∧ Fx q_Ro_measureOf 2 sh 40 [some (.ref c), some (.int v1), some (.int v2), some (.int v3), some (.int v4), some (.int v5)] [.int (hp.1 c 5)] hp (some (.int res)) hp
    refine ⟨hS.1, ?_⟩
    obtain rfl := Option.some.inj hf
    have hk : (hp.1 c 5) = res := hk
    subst hk
    exact Fx.iret (by decide +kernel) rfl
  replace hf := ifn b8 hf
  refine Fx.swD [3, 4, 5, 6, 7] 53 (by decide +kernel) (List.forall_mem_cons.mpr ⟨b4, (List.forall_mem_cons.mpr ⟨b5, (List.forall_mem_cons.mpr ⟨b6, (List.forall_mem_cons.mpr ⟨b7, (List.forall_mem_cons.mpr ⟨b8, (fun _ h => absurd h List.not_mem_nil)⟩)⟩)⟩)⟩)⟩) ?_
  refine Fx.run [(.aload_n 0, 1, 0, 0, .null), (.iload_n 2, 1, 2, 0, .null)] 55 (by decide +kernel) ?_
  show Fx q_Ro_measureOf 2 sh 55 [some (.ref c), some (.int v1), some (.int v2), some (.int v3), some (.int v4), some (.int v5)] [.int v2, .ref c] hp (some (.int res)) hp
  replace hf := bnd hf
  obtain ⟨r3, hr3, hf⟩ := hf
  refine Fx.callV (rr := (some (.int r3))) (hp1 := hp) [.int v2] [] lk_4_45 (by decide +kernel) (t_Ro_lastStart sh c (hS) hp v2 r3 hr3) ⟨Nat.le_of_ble_eq_true rfl, Nat.le_of_ble_eq_true rfl⟩ (hS).1 (by decide) rfl (Nat.le_of_ble_eq_true rfl) ?_
  show Fx q_Ro_measureOf 2 sh 58 [some (.ref c), some (.int v1), some (.int v2), some (.int v3), some (.int v4), some (.int v5)] [.int r3] hp (some (.int res)) hp
  refine Fx.run [(.iload 4, 2, 4, 0, .null), (.isub, 1, 0, 0, .null)] 61 (by decide +kernel) ?_
  show Fx q_Ro_measureOf 2 sh 61 [some (.ref c), some (.int v1), some (.int v2), some (.int v3), some (.int v4), some (.int v5)] [.int (r3 - v4)] hp (some (.int res)) hp
  obtain rfl := Option.some.inj hf
  have hk : (r3 - v4) = res := hk
  subst hk
  exact Fx.iret (by decide +kernel) rfl
abbrev P_TJ_load_98 (sh : Shp) (c : Nat) (v2 : Nat) (v3 : Nat) (v4 : Int32) (res : (HP × Int32)) : (HP × Int32) → Prop := fun s => Fx q_TJ_load 3 sh 98 [some (.ref c), none, some (.ref v2), some (.ref v3), some (.int v4), some (.int s.2), none] [] s.1 (some (.int res.2)) res.1
set_option maxHeartbeats 4000000 in
set_option maxRecDepth 20000 in
theorem t_TJ_load_l98 (sh : Shp) (c : Nat) (hS : S_TJ sh c) (hp : HP) (v2 : Nat) (hv2 : S_Ro sh v2) (v3 : Nat) (hv3 : S_Ro sh v3) (v4 : Int32) (res : (HP × Int32)) : ∀ (s : (HP × Int32)) (t : (HP × Int32)), f_TJ_load_l98 c hp v2 v3 v4 s = some t → (fun v => v = res) t → P_TJ_load_98 sh c v2 v3 v4 res s := by
  refine loop_ind (P_TJ_load_98 sh c v2 v3 v4 res) (fun v => v = res) ?_
  intro s t hf hk
  obtain ⟨hp, v5⟩ := s
  replace hf : f_TJ_load_b98 c hp v2 v3 v4 v5 = some t := hf
  show Fx q_TJ_load 3 sh 98 [some (.ref c), none, some (.ref v2), some (.ref v3), some (.int v4), some (.int v5), none] [] hp (some (.int res.2)) res.1
  unfold f_TJ_load_b98 at hf
  refine Fx.run [(.iload 5, 2, 5, 0, .null), (.aload_n 2, 1, 2, 0, .null), (.getfield 88, 3, 4, 5, .null)] 104 (by decide +kernel) ?_
  show isK sh v2 4 ∧ Fx q_TJ_load 3 sh 104 [some (.ref c), none, some (.ref v2), some (.ref v3), some (.int v4), some (.int v5), none] [.int (hp.1 v2 5), .int v5] hp (some (.int res.2)) res.1
  refine ⟨hv2.1, ?_⟩
  refine Fx.icmp_ge (170) 274 107 (by decide +kernel) (fun b7 => ?_) (fun b7 => ?_)
  · replace hf := ifp b7 hf
    replace hf := mpd hf
    obtain ⟨t, hf, rfl⟩ := hf
    refine Fx.run [(.aload_n 2, 1, 2, 0, .null), (.iconst 0, 1, 0, 0, .int 0), (.putfield 88, 3, 4, 5, .null), (.aload_n 3, 1, 3, 0, .null), (.getfield 88, 3, 4, 5, .null), (.iload 4, 2, 4, 0, .null), (.isub, 1, 0, 0, .null)] 286 (by decide +kernel) ?_
    show isK sh v2 4 ∧ isK sh v3 4 ∧ Fx q_TJ_load 3 sh 286 [some (.ref c), none, some (.ref v2), some (.ref v3), some (.int v4), some (.int v5), none] [.int (((upI hp v2 5 0).1 v3 5) - v4)] (upI hp v2 5 0) (some (.int res.2)) res.1
    refine ⟨hv2.1, hv3.1, ?_⟩
    obtain rfl := Option.some.inj hf
    have hk : ((upI hp v2 5 0), (((upI hp v2 5 0).1 v3 5) - v4)) = res := hk
    subst hk
    exact Fx.iret (by decide +kernel) rfl
  · replace hf := ifn b7 hf
    replace hf := gd hf
    obtain ⟨g8, hf⟩ := hf
    replace hf := gd hf
    obtain ⟨g9, hf⟩ := hf
    replace hf := gd hf
    obtain ⟨g10, hf⟩ := hf
    replace hf := gd hf
    obtain ⟨g11, hf⟩ := hf
    refine Fx.run [(.aload_n 3, 1, 3, 0, .null), (.aload_n 2, 1, 2, 0, .null), (.getfield 99, 3, 4, 0, .ref 1), (.iload 5, 2, 5, 0, .null), (.iaload, 1, 40, 0, .null), (.aload_n 2, 1, 2, 0, .null), (.getfield 102, 3, 4, 1, .ref 2), (.iload 5, 2, 5, 0, .null), (.iaload, 1, 40, 0, .null), (.aload_n 2, 1, 2, 0, .null), (.getfield 105, 3, 4, 2, .ref 3), (.iload 5, 2, 5, 0, .null), (.iaload, 1, 40, 0, .null), (.aload_n 2, 1, 2, 0, .null), (.getfield 108, 3, 4, 3, .ref 4), (.iload 5, 2, 5, 0, .null), (.iaload, 1, 40, 0, .null)] 136 (by decide +kernel) ?_
    show isK sh v2 4 ∧ (isA sh (v2 + 1) 10 40 ∧ inb v5 40) ∧ isK sh v2 4 ∧ (isA sh (v2 + 2) 10 40 ∧ inb v5 40) ∧ isK sh v2 4 ∧ (isA sh (v2 + 3) 10 40 ∧ inb v5 40) ∧ isK sh v2 4 ∧ (isA sh (v2 + 4) 10 40 ∧ inb v5 40) ∧ Fx q_TJ_load 3 sh 136 [some (.ref c), none, some (.ref v2), some (.ref v3), some (.int v4), some (.int v5), none] [.int (hp.1 (v2 + 4) (ix v5)), .int (hp.1 (v2 + 3) (ix v5)), .int (hp.1 (v2 + 2) (ix v5)), .int (hp.1 (v2 + 1) (ix v5)), .ref v3] hp (some (.int res.2)) res.1
    refine ⟨hv2.1, ⟨hv2.2.1, g8⟩, hv2.1, ⟨hv2.2.2.1, g9⟩, hv2.1, ⟨hv2.2.2.2.1, g10⟩, hv2.1, ⟨hv2.2.2.2.2.1, g11⟩, ?_⟩
    replace hf := bnd hf
    obtain ⟨r12, hr12, hf⟩ := hf
    refine Fx.callV (rr := (some (.int r12))) (hp1 := hp) [.int (hp.1 (v2 + 1) (ix v5)), .int (hp.1 (v2 + 2) (ix v5)), .int (hp.1 (v2 + 3) (ix v5)), .int (hp.1 (v2 + 4) (ix v5))] [] lk_8_111 (by decide +kernel) (t_Ro_faultOf sh v3 (hv3) hp (hp.1 (v2 + 1) (ix v5)) (hp.1 (v2 + 2) (ix v5)) (hp.1 (v2 + 3) (ix v5)) (hp.1 (v2 + 4) (ix v5)) r12 hr12) ⟨Nat.le_of_ble_eq_true rfl, Nat.le_of_ble_eq_true rfl⟩ (hv3).1 (by decide) rfl (Nat.le_of_ble_eq_true rfl) ?_
    show Fx q_TJ_load 3 sh 139 [some (.ref c), none, some (.ref v2), some (.ref v3), some (.int v4), some (.int v5), none] [.int r12] hp (some (.int res.2)) res.1
    refine Fx.run [(.istore 6, 2, 6, 0, .null), (.iload 6, 2, 6, 0, .null)] 143 (by decide +kernel) ?_
    show Fx q_TJ_load 3 sh 143 [some (.ref c), none, some (.ref v2), some (.ref v3), some (.int v4), some (.int v5), some (.int r12)] [.int r12] hp (some (.int res.2)) res.1
    refine Fx.if_eq (85) 228 146 (by decide +kernel) (fun b13 => ?_) (fun b13 => ?_)
    · replace hf := ifp b13 hf
      replace hf := gd hf
      obtain ⟨g14, hf⟩ := hf
      replace hf := gd hf
      obtain ⟨g15, hf⟩ := hf
      replace hf := gd hf
      obtain ⟨g16, hf⟩ := hf
      replace hf := gd hf
      obtain ⟨g17, hf⟩ := hf
      replace hf := gd hf
      obtain ⟨g18, hf⟩ := hf
      refine Fx.run [(.aload_n 3, 1, 3, 0, .null), (.aload_n 2, 1, 2, 0, .null), (.getfield 99, 3, 4, 0, .ref 1), (.iload 5, 2, 5, 0, .null), (.iaload, 1, 40, 0, .null), (.aload_n 2, 1, 2, 0, .null), (.getfield 102, 3, 4, 1, .ref 2), (.iload 5, 2, 5, 0, .null), (.iaload, 1, 40, 0, .null), (.aload_n 2, 1, 2, 0, .null), (.getfield 105, 3, 4, 2, .ref 3), (.iload 5, 2, 5, 0, .null), (.iaload, 1, 40, 0, .null), (.aload_n 2, 1, 2, 0, .null), (.getfield 108, 3, 4, 3, .ref 4), (.iload 5, 2, 5, 0, .null), (.iaload, 1, 40, 0, .null), (.aload_n 2, 1, 2, 0, .null), (.getfield 119, 3, 4, 4, .ref 5), (.iload 5, 2, 5, 0, .null), (.iaload, 1, 40, 0, .null)] 264 (by decide +kernel) ?_
      show isK sh v2 4 ∧ (isA sh (v2 + 1) 10 40 ∧ inb v5 40) ∧ isK sh v2 4 ∧ (isA sh (v2 + 2) 10 40 ∧ inb v5 40) ∧ isK sh v2 4 ∧ (isA sh (v2 + 3) 10 40 ∧ inb v5 40) ∧ isK sh v2 4 ∧ (isA sh (v2 + 4) 10 40 ∧ inb v5 40) ∧ isK sh v2 4 ∧ (isA sh (v2 + 5) 10 40 ∧ inb v5 40) ∧ Fx q_TJ_load 3 sh 264 [some (.ref c), none, some (.ref v2), some (.ref v3), some (.int v4), some (.int v5), some (.int r12)] [.int (hp.1 (v2 + 5) (ix v5)), .int (hp.1 (v2 + 4) (ix v5)), .int (hp.1 (v2 + 3) (ix v5)), .int (hp.1 (v2 + 2) (ix v5)), .int (hp.1 (v2 + 1) (ix v5)), .ref v3] hp (some (.int res.2)) res.1
      refine ⟨hv2.1, ⟨hv2.2.1, g14⟩, hv2.1, ⟨hv2.2.2.1, g15⟩, hv2.1, ⟨hv2.2.2.2.1, g16⟩, hv2.1, ⟨hv2.2.2.2.2.1, g17⟩, hv2.1, ⟨hv2.2.2.2.2.2, g18⟩, ?_⟩
      replace hf := bnd hf
      obtain ⟨⟨h20, r19⟩, hr19, hf⟩ := hf
      dsimp only at hf
      refine Fx.callV (rr := (some (.int r19))) (hp1 := h20) [.int (hp.1 (v2 + 1) (ix v5)), .int (hp.1 (v2 + 2) (ix v5)), .int (hp.1 (v2 + 3) (ix v5)), .int (hp.1 (v2 + 4) (ix v5)), .int (hp.1 (v2 + 5) (ix v5))] [] lk_8_82 (by decide +kernel) (t_Ro_append sh v3 (hv3) hp (hp.1 (v2 + 1) (ix v5)) (hp.1 (v2 + 2) (ix v5)) (hp.1 (v2 + 3) (ix v5)) (hp.1 (v2 + 4) (ix v5)) (hp.1 (v2 + 5) (ix v5)) (h20, r19) hr19) ⟨Nat.le_of_ble_eq_true rfl, Nat.le_of_ble_eq_true rfl⟩ (hv3).1 (by decide) rfl (Nat.le_of_ble_eq_true rfl) ?_
      show Fx q_TJ_load 3 sh 267 [some (.ref c), none, some (.ref v2), some (.ref v3), some (.int v4), some (.int v5), some (.int r12)] [.int r19] h20 (some (.int res.2)) res.1
      refine Fx.run [(.pop, 1, 0, 0, .null), (.iinc 5 1, 3, 5, 0, .int 1)] 271 (by decide +kernel) ?_
      show Fx q_TJ_load 3 sh 271 [some (.ref c), none, some (.ref v2), some (.ref v3), some (.int v4), some (.int (v5 + 1)), some (.int r12)] [] h20 (some (.int res.2)) res.1
      refine Fx.goto (-173) 98 (by decide +kernel) ?_
      obtain rfl := Option.some.inj hf
      have hk : Fx q_TJ_load 3 sh 98 [some (.ref c), none, some (.ref v2), some (.ref v3), some (.int v4), some (.int (v5 + 1)), none] [] h20 (some (.int res.2)) res.1 := hk
      exact Fx.le hk (And.intro rfl (And.intro rfl (And.intro rfl (And.intro rfl (And.intro rfl trivial)))))
    · replace hf := ifn b13 hf
      replace hf := mpd hf
      obtain ⟨t, hf, rfl⟩ := hf
      refine Fx.run [(.aload_n 0, 1, 0, 0, .null), (.getfield 12, 3, 8, 0, .ref 1), (.getfield 41, 3, 5, 3, .ref 19), (.iconst 1, 1, 0, 0, .int 1), (.aload_n 2, 1, 2, 0, .null), (.getfield 88, 3, 4, 5, .null)] 158 (by decide +kernel) ?_
      show isK sh c 8 ∧ isK sh (c + 1) 5 ∧ isK sh v2 4 ∧ Fx q_TJ_load 3 sh 158 [some (.ref c), none, some (.ref v2), some (.ref v3), some (.int v4), some (.int v5), some (.int r12)] [.int (hp.1 v2 5), .int 1, .ref ((c + 1) + 19)] hp (some (.int res.2)) res.1
      refine ⟨hS.1, hS.2.1.1, hv2.1, ?_⟩
      replace hf := bnd hf
      obtain ⟨h22, hr21, hf⟩ := hf
      refine Fx.callV (rr := none) (hp1 := h22) [.int 1, .int (hp.1 v2 5)] [] lk_8_54 (by decide +kernel) (t_Tr_because sh ((c + 1) + 19) (hS.2.1.2.2.2.2.1) hp 1 (hp.1 v2 5) h22 hr21) ⟨Nat.le_of_ble_eq_true rfl, Nat.le_of_ble_eq_true rfl⟩ (hS.2.1.2.2.2.2.1).1 (by decide) rfl (Nat.le_of_ble_eq_true rfl) ?_
      show Fx q_TJ_load 3 sh 161 [some (.ref c), none, some (.ref v2), some (.ref v3), some (.int v4), some (.int v5), some (.int r12)] [] h22 (some (.int res.2)) res.1
      refine Fx.run [(.aload_n 0, 1, 0, 0, .null), (.getfield 12, 3, 8, 0, .ref 1), (.getfield 41, 3, 5, 3, .ref 19), (.iconst 2, 1, 0, 0, .int 2), (.iload 5, 2, 5, 0, .null)] 171 (by decide +kernel) ?_
      show isK sh c 8 ∧ isK sh (c + 1) 5 ∧ Fx q_TJ_load 3 sh 171 [some (.ref c), none, some (.ref v2), some (.ref v3), some (.int v4), some (.int v5), some (.int r12)] [.int v5, .int 2, .ref ((c + 1) + 19)] h22 (some (.int res.2)) res.1
      refine ⟨hS.1, hS.2.1.1, ?_⟩
      replace hf := bnd hf
      obtain ⟨h24, hr23, hf⟩ := hf
      refine Fx.callV (rr := none) (hp1 := h24) [.int 2, .int v5] [] lk_8_54 (by decide +kernel) (t_Tr_because sh ((c + 1) + 19) (hS.2.1.2.2.2.2.1) h22 2 v5 h24 hr23) ⟨Nat.le_of_ble_eq_true rfl, Nat.le_of_ble_eq_true rfl⟩ (hS.2.1.2.2.2.2.1).1 (by decide) rfl (Nat.le_of_ble_eq_true rfl) ?_
      show Fx q_TJ_load 3 sh 174 [some (.ref c), none, some (.ref v2), some (.ref v3), some (.int v4), some (.int v5), some (.int r12)] [] h24 (some (.int res.2)) res.1
      replace hf := gd hf
      obtain ⟨g25, hf⟩ := hf
      replace hf := gd hf
      obtain ⟨g26, hf⟩ := hf
      replace hf := gd hf
      obtain ⟨g27, hf⟩ := hf
      replace hf := gd hf
      obtain ⟨g28, hf⟩ := hf
      refine Fx.run [(.aload_n 0, 1, 0, 0, .null), (.getfield 12, 3, 8, 0, .ref 1), (.getfield 41, 3, 5, 3, .ref 19), (.iload 6, 2, 6, 0, .null), (.aload_n 3, 1, 3, 0, .null), (.iload 6, 2, 6, 0, .null), (.aload_n 2, 1, 2, 0, .null), (.getfield 99, 3, 4, 0, .ref 1), (.iload 5, 2, 5, 0, .null), (.iaload, 1, 40, 0, .null), (.aload_n 2, 1, 2, 0, .null), (.getfield 102, 3, 4, 1, .ref 2), (.iload 5, 2, 5, 0, .null), (.iaload, 1, 40, 0, .null), (.aload_n 2, 1, 2, 0, .null), (.getfield 105, 3, 4, 2, .ref 3), (.iload 5, 2, 5, 0, .null), (.iaload, 1, 40, 0, .null), (.aload_n 2, 1, 2, 0, .null), (.getfield 108, 3, 4, 3, .ref 4), (.iload 5, 2, 5, 0, .null), (.iaload, 1, 40, 0, .null)] 214 (by decide +kernel) ?_
      show isK sh c 8 ∧ isK sh (c + 1) 5 ∧ isK sh v2 4 ∧ (isA sh (v2 + 1) 10 40 ∧ inb v5 40) ∧ isK sh v2 4 ∧ (isA sh (v2 + 2) 10 40 ∧ inb v5 40) ∧ isK sh v2 4 ∧ (isA sh (v2 + 3) 10 40 ∧ inb v5 40) ∧ isK sh v2 4 ∧ (isA sh (v2 + 4) 10 40 ∧ inb v5 40) ∧ Fx q_TJ_load 3 sh 214 [some (.ref c), none, some (.ref v2), some (.ref v3), some (.int v4), some (.int v5), some (.int r12)] [.int (h24.1 (v2 + 4) (ix v5)), .int (h24.1 (v2 + 3) (ix v5)), .int (h24.1 (v2 + 2) (ix v5)), .int (h24.1 (v2 + 1) (ix v5)), .int r12, .ref v3, .int r12, .ref ((c + 1) + 19)] h24 (some (.int res.2)) res.1
      refine ⟨hS.1, hS.2.1.1, hv2.1, ⟨hv2.2.1, g25⟩, hv2.1, ⟨hv2.2.2.1, g26⟩, hv2.1, ⟨hv2.2.2.2.1, g27⟩, hv2.1, ⟨hv2.2.2.2.2.1, g28⟩, ?_⟩
      replace hf := bnd hf
      obtain ⟨r29, hr29, hf⟩ := hf
      refine Fx.callV (rr := (some (.int r29))) (hp1 := h24) [.int r12, .int (h24.1 (v2 + 1) (ix v5)), .int (h24.1 (v2 + 2) (ix v5)), .int (h24.1 (v2 + 3) (ix v5)), .int (h24.1 (v2 + 4) (ix v5))] [.int r12, .ref ((c + 1) + 19)] lk_8_115 (by decide +kernel) (t_Ro_measureOf sh v3 (hv3) h24 r12 (h24.1 (v2 + 1) (ix v5)) (h24.1 (v2 + 2) (ix v5)) (h24.1 (v2 + 3) (ix v5)) (h24.1 (v2 + 4) (ix v5)) r29 hr29) ⟨Nat.le_of_ble_eq_true rfl, Nat.le_of_ble_eq_true rfl⟩ (hv3).1 (by decide) rfl (Nat.le_of_ble_eq_true rfl) ?_
      show Fx q_TJ_load 3 sh 217 [some (.ref c), none, some (.ref v2), some (.ref v3), some (.int v4), some (.int v5), some (.int r12)] [.int r29, .int r12, .ref ((c + 1) + 19)] h24 (some (.int res.2)) res.1
      replace hf := bnd hf
      obtain ⟨h31, hr30, hf⟩ := hf
      refine Fx.callV (rr := none) (hp1 := h31) [.int r12, .int r29] [] lk_8_54 (by decide +kernel) (t_Tr_because sh ((c + 1) + 19) (hS.2.1.2.2.2.2.1) h24 r12 r29 h31 hr30) ⟨Nat.le_of_ble_eq_true rfl, Nat.le_of_ble_eq_true rfl⟩ (hS.2.1.2.2.2.2.1).1 (by decide) rfl (Nat.le_of_ble_eq_true rfl) ?_
      show Fx q_TJ_load 3 sh 220 [some (.ref c), none, some (.ref v2), some (.ref v3), some (.int v4), some (.int v5), some (.int r12)] [] h31 (some (.int res.2)) res.1
      refine Fx.run [(.aload_n 3, 1, 3, 0, .null), (.iload 4, 2, 4, 0, .null), (.putfield 88, 3, 4, 5, .null), (.iconst (-1), 1, 0, 0, .int (-1))] 227 (by decide +kernel) ?_
      show isK sh v3 4 ∧ Fx q_TJ_load 3 sh 227 [some (.ref c), none, some (.ref v2), some (.ref v3), some (.int v4), some (.int v5), some (.int r12)] [.int (-1)] (upI h31 v3 5 v4) (some (.int res.2)) res.1
      refine ⟨hv3.1, ?_⟩
      obtain rfl := Option.some.inj hf
      have hk : ((upI h31 v3 5 v4), (-1)) = res := hk
      subst hk
      exact Fx.iret (by decide +kernel) rfl
set_option maxHeartbeats 4000000 in
set_option maxRecDepth 20000 in
theorem t_TJ_load (sh : Shp) (c : Nat) (hS : S_TJ sh c) (hp : HP) (v1 : Int32) (res : (HP × Int32)) (hf : f_TJ_load c hp v1 = some res) : Ex 3 q_TJ_load sh [.ref c, .int v1] hp (some (.int res.2)) res.1 := by
  refine Ex.of [some (.ref c), some (.int v1), none, none, none, none, none] rfl (Nat.le_of_ble_eq_true rfl) (by decide +kernel) rfl ?_
  obtain ⟨t, hk⟩ : ∃ t, t = res := ⟨res, rfl⟩
  rw [← hk] at hf
  unfold f_TJ_load at hf
  refine Fx.run [(.aload_n 0, 1, 0, 0, .null), (.getfield 12, 3, 8, 0, .ref 1), (.getfield 41, 3, 5, 3, .ref 19)] 7 (by decide +kernel) ?_
  show isK sh c 8 ∧ isK sh (c + 1) 5 ∧ Fx q_TJ_load 3 sh 7 [some (.ref c), some (.int v1), none, none, none, none, none] [.ref ((c + 1) + 19)] hp (some (.int res.2)) res.1
  refine ⟨hS.1, hS.2.1.1, ?_⟩
  replace hf := bnd hf
  obtain ⟨h2, hr1, hf⟩ := hf
  refine Fx.callV (rr := none) (hp1 := h2) [] [] lk_8_45 (by decide +kernel) (t_Tr_forget sh ((c + 1) + 19) (hS.2.1.2.2.2.2.1) hp h2 hr1) ⟨Nat.le_of_ble_eq_true rfl, Nat.le_of_ble_eq_true rfl⟩ (hS.2.1.2.2.2.2.1).1 (by decide) rfl (Nat.le_of_ble_eq_true rfl) ?_
  show Fx q_TJ_load 3 sh 10 [some (.ref c), some (.int v1), none, none, none, none, none] [] h2 (some (.int res.2)) res.1
  refine Fx.run [(.iload_n 1, 1, 1, 0, .null)] 11 (by decide +kernel) ?_
  show Fx q_TJ_load 3 sh 11 [some (.ref c), some (.int v1), none, none, none, none, none] [.int v1] h2 (some (.int res.2)) res.1
  replace hf := bnd hf
  obtain ⟨r3, hr3, hf⟩ := hf
  refine Fx.callS (rr := (some (.int r3))) (hp1 := h2) [.int v1] [] lk_8_91 (by decide +kernel) (t_TJ_isSide sh h2 v1 r3 hr3) ⟨Nat.le_of_ble_eq_true rfl, Nat.le_of_ble_eq_true rfl⟩ rfl (Nat.le_of_ble_eq_true rfl) ?_
  show Fx q_TJ_load 3 sh 14 [some (.ref c), some (.int v1), none, none, none, none, none] [.int r3] h2 (some (.int res.2)) res.1
  refine Fx.if_ne (6) 20 17 (by decide +kernel) (fun b4 => ?_) (fun b4 => ?_)
  · replace hf := ifn b4 hf
    refine Fx.run [(.aload_n 0, 1, 0, 0, .null), (.getfield 12, 3, 8, 0, .ref 1), (.getfield 78, 3, 5, 2, .ref 13), (.astore_n 2, 1, 2, 0, .null), (.aload_n 0, 1, 0, 0, .null), (.getfield 12, 3, 8, 0, .ref 1), (.getfield 58, 3, 5, 4, .ref 22), (.getfield 62, 3, 1, 3, .null)] 38 (by decide +kernel) ?_
    show isK sh c 8 ∧ isK sh (c + 1) 5 ∧ isK sh c 8 ∧ isK sh (c + 1) 5 ∧ isK sh ((c + 1) + 22) 1 ∧ Fx q_TJ_load 3 sh 38 [some (.ref c), some (.int v1), some (.ref ((c + 1) + 13)), none, none, none, none] [.int (h2.1 ((c + 1) + 22) 3)] h2 (some (.int res.2)) res.1
    refine ⟨hS.1, hS.2.1.1, hS.1, hS.2.1.1, hS.2.1.2.2.2.2.2.1.1, ?_⟩
    refine Fx.if_eq (42) 80 41 (by decide +kernel) (fun b5 => ?_) (fun b5 => ?_)
    · replace hf := ifp b5 hf
      refine Fx.run [(.aload_n 0, 1, 0, 0, .null), (.getfield 12, 3, 8, 0, .ref 1), (.iload_n 1, 1, 1, 0, .null)] 85 (by decide +kernel) ?_
      show isK sh c 8 ∧ Fx q_TJ_load 3 sh 85 [some (.ref c), some (.int v1), some (.ref ((c + 1) + 13)), none, none, none, none] [.int v1, .ref (c + 1)] h2 (some (.int res.2)) res.1
      refine ⟨hS.1, ?_⟩
      replace hf := bnd hf
      obtain ⟨r6, hr6, hf⟩ := hf
      refine Fx.callV (rr := (some (.ref r6))) (hp1 := h2) [.int v1] [] lk_8_95 (by decide +kernel) (t_St_rowsOf sh (c + 1) (hS.2.1) h2 v1 r6 hr6) ⟨Nat.le_of_ble_eq_true rfl, Nat.le_of_ble_eq_true rfl⟩ (hS.2.1).1 (by decide) rfl (Nat.le_of_ble_eq_true rfl) ?_
      show Fx q_TJ_load 3 sh 88 [some (.ref c), some (.int v1), some (.ref ((c + 1) + 13)), none, none, none, none] [.ref r6] h2 (some (.int res.2)) res.1
      refine Fx.run [(.astore_n 3, 1, 3, 0, .null), (.aload_n 3, 1, 3, 0, .null), (.getfield 88, 3, 4, 5, .null), (.istore 4, 2, 4, 0, .null), (.iconst 0, 1, 0, 0, .int 0), (.istore 5, 2, 5, 0, .null)] 98 (by decide +kernel) ?_
      show isK sh r6 4 ∧ Fx q_TJ_load 3 sh 98 [some (.ref c), some (.int v1), some (.ref ((c + 1) + 13)), some (.ref r6), some (.int (h2.1 r6 5)), some (.int 0), none] [] h2 (some (.int res.2)) res.1
      refine ⟨(rowsOf_S hS.2.1 hr6).1, ?_⟩
      have hl := t_TJ_load_l98 sh c hS h2 ((c + 1) + 13) (hS.2.1.2.2.2.1) r6 ((rowsOf_S hS.2.1 hr6)) (h2.1 r6 5) res (h2, 0) _ hf hk
      have hl : Fx q_TJ_load 3 sh 98 [some (.ref c), none, some (.ref ((c + 1) + 13)), some (.ref r6), some (.int (h2.1 r6 5)), some (.int 0), none] [] h2 (some (.int res.2)) res.1 := hl
      exact Fx.le hl (And.intro rfl (And.intro rfl (And.intro rfl (And.intro rfl (And.intro rfl trivial)))))
    · replace hf := ifn b5 hf
      refine Fx.run [(.aload_n 0, 1, 0, 0, .null), (.getfield 12, 3, 8, 0, .ref 1), (.getfield 41, 3, 5, 3, .ref 19), (.iconst 1, 1, 0, 0, .int 1), (.aload_n 2, 1, 2, 0, .null), (.getfield 88, 3, 4, 5, .null)] 53 (by decide +kernel) ?_
      show isK sh c 8 ∧ isK sh (c + 1) 5 ∧ isK sh ((c + 1) + 13) 4 ∧ Fx q_TJ_load 3 sh 53 [some (.ref c), some (.int v1), some (.ref ((c + 1) + 13)), none, none, none, none] [.int (h2.1 ((c + 1) + 13) 5), .int 1, .ref ((c + 1) + 19)] h2 (some (.int res.2)) res.1
      refine ⟨hS.1, hS.2.1.1, hS.2.1.2.2.2.1.1, ?_⟩
      replace hf := bnd hf
      obtain ⟨h33, hr32, hf⟩ := hf
      refine Fx.callV (rr := none) (hp1 := h33) [.int 1, .int (h2.1 ((c + 1) + 13) 5)] [] lk_8_54 (by decide +kernel) (t_Tr_because sh ((c + 1) + 19) (hS.2.1.2.2.2.2.1) h2 1 (h2.1 ((c + 1) + 13) 5) h33 hr32) ⟨Nat.le_of_ble_eq_true rfl, Nat.le_of_ble_eq_true rfl⟩ (hS.2.1.2.2.2.2.1).1 (by decide) rfl (Nat.le_of_ble_eq_true rfl) ?_
      show Fx q_TJ_load 3 sh 56 [some (.ref c), some (.int v1), some (.ref ((c + 1) + 13)), none, none, none, none] [] h33 (some (.int res.2)) res.1
      refine Fx.run [(.aload_n 0, 1, 0, 0, .null), (.getfield 12, 3, 8, 0, .ref 1), (.getfield 41, 3, 5, 3, .ref 19), (.bipush 8, 2, 0, 0, .int 8), (.aload_n 0, 1, 0, 0, .null), (.getfield 12, 3, 8, 0, .ref 1), (.getfield 58, 3, 5, 4, .ref 22), (.getfield 68, 3, 1, 2, .null)] 75 (by decide +kernel) ?_
      show isK sh c 8 ∧ isK sh (c + 1) 5 ∧ isK sh c 8 ∧ isK sh (c + 1) 5 ∧ isK sh ((c + 1) + 22) 1 ∧ Fx q_TJ_load 3 sh 75 [some (.ref c), some (.int v1), some (.ref ((c + 1) + 13)), none, none, none, none] [.int (h33.1 ((c + 1) + 22) 2), .int 8, .ref ((c + 1) + 19)] h33 (some (.int res.2)) res.1
      refine ⟨hS.1, hS.2.1.1, hS.1, hS.2.1.1, hS.2.1.2.2.2.2.2.1.1, ?_⟩
      replace hf := bnd hf
      obtain ⟨h35, hr34, hf⟩ := hf
      refine Fx.callV (rr := none) (hp1 := h35) [.int 8, .int (h33.1 ((c + 1) + 22) 2)] [] lk_8_54 (by decide +kernel) (t_Tr_because sh ((c + 1) + 19) (hS.2.1.2.2.2.2.1) h33 8 (h33.1 ((c + 1) + 22) 2) h35 hr34) ⟨Nat.le_of_ble_eq_true rfl, Nat.le_of_ble_eq_true rfl⟩ (hS.2.1.2.2.2.2.1).1 (by decide) rfl (Nat.le_of_ble_eq_true rfl) ?_
      show Fx q_TJ_load 3 sh 78 [some (.ref c), some (.int v1), some (.ref ((c + 1) + 13)), none, none, none, none] [] h35 (some (.int res.2)) res.1
      refine Fx.run [(.iconst (-1), 1, 0, 0, .int (-1))] 79 (by decide +kernel) ?_
      show Fx q_TJ_load 3 sh 79 [some (.ref c), some (.int v1), some (.ref ((c + 1) + 13)), none, none, none, none] [.int (-1)] h35 (some (.int res.2)) res.1
      obtain rfl := Option.some.inj hf
      have hk : (h35, (-1)) = res := hk
      subst hk
      exact Fx.iret (by decide +kernel) rfl
  · replace hf := ifp b4 hf
    refine Fx.run [(.bipush (-2), 2, 0, 0, .int (-2))] 19 (by decide +kernel) ?_
    show Fx q_TJ_load 3 sh 19 [some (.ref c), some (.int v1), none, none, none, none, none] [.int (-2)] h2 (some (.int res.2)) res.1
    obtain rfl := Option.some.inj hf
    have hk : (h2, (-2)) = res := hk
    subst hk
    exact Fx.iret (by decide +kernel) rfl
set_option maxHeartbeats 4000000 in
set_option maxRecDepth 20000 in
theorem t_TJ_add (sh : Shp) (c : Nat) (hS : S_TJ sh c) (hp : HP) (v1 : Int32) (v2 : Int32) (v3 : Int32) (v4 : Int32) (v5 : Int32) (v6 : Int32) (res : (HP × Int32)) (hf : f_TJ_add c hp v1 v2 v3 v4 v5 v6 = some res) : Ex 3 q_TJ_add sh [.ref c, .int v1, .int v2, .int v3, .int v4, .int v5, .int v6] hp (some (.int res.2)) res.1 := by
  refine Ex.of [some (.ref c), some (.int v1), some (.int v2), some (.int v3), some (.int v4), some (.int v5), some (.int v6), none, none] rfl (Nat.le_of_ble_eq_true rfl) (by decide +kernel) rfl ?_
  obtain ⟨t, hk⟩ : ∃ t, t = res := ⟨res, rfl⟩
  rw [← hk] at hf
  unfold f_TJ_add at hf
  refine Fx.run [(.aload_n 0, 1, 0, 0, .null), (.getfield 12, 3, 8, 0, .ref 1), (.getfield 41, 3, 5, 3, .ref 19)] 7 (by decide +kernel) ?_
  show isK sh c 8 ∧ isK sh (c + 1) 5 ∧ Fx q_TJ_add 3 sh 7 [some (.ref c), some (.int v1), some (.int v2), some (.int v3), some (.int v4), some (.int v5), some (.int v6), none, none] [.ref ((c + 1) + 19)] hp (some (.int res.2)) res.1
  refine ⟨hS.1, hS.2.1.1, ?_⟩
  replace hf := bnd hf
  obtain ⟨h2, hr1, hf⟩ := hf
  refine Fx.callV (rr := none) (hp1 := h2) [] [] lk_8_45 (by decide +kernel) (t_Tr_forget sh ((c + 1) + 19) (hS.2.1.2.2.2.2.1) hp h2 hr1) ⟨Nat.le_of_ble_eq_true rfl, Nat.le_of_ble_eq_true rfl⟩ (hS.2.1.2.2.2.2.1).1 (by decide) rfl (Nat.le_of_ble_eq_true rfl) ?_
  show Fx q_TJ_add 3 sh 10 [some (.ref c), some (.int v1), some (.int v2), some (.int v3), some (.int v4), some (.int v5), some (.int v6), none, none] [] h2 (some (.int res.2)) res.1
  refine Fx.run [(.iload_n 1, 1, 1, 0, .null)] 11 (by decide +kernel) ?_
  show Fx q_TJ_add 3 sh 11 [some (.ref c), some (.int v1), some (.int v2), some (.int v3), some (.int v4), some (.int v5), some (.int v6), none, none] [.int v1] h2 (some (.int res.2)) res.1
  replace hf := bnd hf
  obtain ⟨r3, hr3, hf⟩ := hf
  refine Fx.callS (rr := (some (.int r3))) (hp1 := h2) [.int v1] [] lk_8_91 (by decide +kernel) (t_TJ_isSide sh h2 v1 r3 hr3) ⟨Nat.le_of_ble_eq_true rfl, Nat.le_of_ble_eq_true rfl⟩ rfl (Nat.le_of_ble_eq_true rfl) ?_
  show Fx q_TJ_add 3 sh 14 [some (.ref c), some (.int v1), some (.int v2), some (.int v3), some (.int v4), some (.int v5), some (.int v6), none, none] [.int r3] h2 (some (.int res.2)) res.1
  refine Fx.if_ne (6) 20 17 (by decide +kernel) (fun b4 => ?_) (fun b4 => ?_)
  · replace hf := ifn b4 hf
    refine Fx.run [(.aload_n 0, 1, 0, 0, .null), (.getfield 12, 3, 8, 0, .ref 1), (.getfield 58, 3, 5, 4, .ref 22), (.getfield 62, 3, 1, 3, .null)] 30 (by decide +kernel) ?_
    show isK sh c 8 ∧ isK sh (c + 1) 5 ∧ isK sh ((c + 1) + 22) 1 ∧ Fx q_TJ_add 3 sh 30 [some (.ref c), some (.int v1), some (.int v2), some (.int v3), some (.int v4), some (.int v5), some (.int v6), none, none] [.int (h2.1 ((c + 1) + 22) 3)] h2 (some (.int res.2)) res.1
    refine ⟨hS.1, hS.2.1.1, hS.2.1.2.2.2.2.2.1.1, ?_⟩
    refine Fx.if_eq (27) 57 33 (by decide +kernel) (fun b5 => ?_) (fun b5 => ?_)
    · replace hf := ifp b5 hf
      refine Fx.run [(.aload_n 0, 1, 0, 0, .null), (.getfield 12, 3, 8, 0, .ref 1), (.iload_n 1, 1, 1, 0, .null)] 62 (by decide +kernel) ?_
      show isK sh c 8 ∧ Fx q_TJ_add 3 sh 62 [some (.ref c), some (.int v1), some (.int v2), some (.int v3), some (.int v4), some (.int v5), some (.int v6), none, none] [.int v1, .ref (c + 1)] h2 (some (.int res.2)) res.1
      refine ⟨hS.1, ?_⟩
      replace hf := bnd hf
      obtain ⟨r6, hr6, hf⟩ := hf
      refine Fx.callV (rr := (some (.ref r6))) (hp1 := h2) [.int v1] [] lk_8_95 (by decide +kernel) (t_St_rowsOf sh (c + 1) (hS.2.1) h2 v1 r6 hr6) ⟨Nat.le_of_ble_eq_true rfl, Nat.le_of_ble_eq_true rfl⟩ (hS.2.1).1 (by decide) rfl (Nat.le_of_ble_eq_true rfl) ?_
      show Fx q_TJ_add 3 sh 65 [some (.ref c), some (.int v1), some (.int v2), some (.int v3), some (.int v4), some (.int v5), some (.int v6), none, none] [.ref r6] h2 (some (.int res.2)) res.1
      refine Fx.run [(.astore 7, 2, 7, 0, .null), (.aload 7, 2, 7, 0, .null), (.iload_n 2, 1, 2, 0, .null), (.iload_n 3, 1, 3, 0, .null), (.iload 4, 2, 4, 0, .null), (.iload 5, 2, 5, 0, .null)] 75 (by decide +kernel) ?_
      show Fx q_TJ_add 3 sh 75 [some (.ref c), some (.int v1), some (.int v2), some (.int v3), some (.int v4), some (.int v5), some (.int v6), some (.ref r6), none] [.int v5, .int v4, .int v3, .int v2, .ref r6] h2 (some (.int res.2)) res.1
      replace hf := bnd hf
      obtain ⟨r7, hr7, hf⟩ := hf
      refine Fx.callV (rr := (some (.int r7))) (hp1 := h2) [.int v2, .int v3, .int v4, .int v5] [] lk_8_111 (by decide +kernel) (t_Ro_faultOf sh r6 ((rowsOf_S hS.2.1 hr6)) h2 v2 v3 v4 v5 r7 hr7) ⟨Nat.le_of_ble_eq_true rfl, Nat.le_of_ble_eq_true rfl⟩ ((rowsOf_S hS.2.1 hr6)).1 (by decide) rfl (Nat.le_of_ble_eq_true rfl) ?_
      show Fx q_TJ_add 3 sh 78 [some (.ref c), some (.int v1), some (.int v2), some (.int v3), some (.int v4), some (.int v5), some (.int v6), some (.ref r6), none] [.int r7] h2 (some (.int res.2)) res.1
      refine Fx.run [(.istore 8, 2, 8, 0, .null), (.iload 8, 2, 8, 0, .null)] 82 (by decide +kernel) ?_
      show Fx q_TJ_add 3 sh 82 [some (.ref c), some (.int v1), some (.int v2), some (.int v3), some (.int v4), some (.int v5), some (.int v6), some (.ref r6), some (.int r7)] [.int r7] h2 (some (.int res.2)) res.1
      refine Fx.if_eq (42) 124 85 (by decide +kernel) (fun b8 => ?_) (fun b8 => ?_)
      · replace hf := ifp b8 hf
        refine Fx.run [(.aload 7, 2, 7, 0, .null), (.iload_n 2, 1, 2, 0, .null), (.iload_n 3, 1, 3, 0, .null), (.iload 4, 2, 4, 0, .null), (.iload 5, 2, 5, 0, .null), (.iload 6, 2, 6, 0, .null)] 134 (by decide +kernel) ?_
        show Fx q_TJ_add 3 sh 134 [some (.ref c), some (.int v1), some (.int v2), some (.int v3), some (.int v4), some (.int v5), some (.int v6), some (.ref r6), some (.int r7)] [.int v6, .int v5, .int v4, .int v3, .int v2, .ref r6] h2 (some (.int res.2)) res.1
        replace hf := bnd hf
        obtain ⟨⟨h10, r9⟩, hr9, hf⟩ := hf
        dsimp only at hf
        refine Fx.callV (rr := (some (.int r9))) (hp1 := h10) [.int v2, .int v3, .int v4, .int v5, .int v6] [] lk_8_82 (by decide +kernel) (t_Ro_append sh r6 ((rowsOf_S hS.2.1 hr6)) h2 v2 v3 v4 v5 v6 (h10, r9) hr9) ⟨Nat.le_of_ble_eq_true rfl, Nat.le_of_ble_eq_true rfl⟩ ((rowsOf_S hS.2.1 hr6)).1 (by decide) rfl (Nat.le_of_ble_eq_true rfl) ?_
        show Fx q_TJ_add 3 sh 137 [some (.ref c), some (.int v1), some (.int v2), some (.int v3), some (.int v4), some (.int v5), some (.int v6), some (.ref r6), some (.int r7)] [.int r9] h10 (some (.int res.2)) res.1
        refine Fx.run [(.pop, 1, 0, 0, .null), (.aload 7, 2, 7, 0, .null), (.getfield 88, 3, 4, 5, .null), (.iconst 1, 1, 0, 0, .int 1), (.isub, 1, 0, 0, .null)] 145 (by decide +kernel) ?_
        show isK sh r6 4 ∧ Fx q_TJ_add 3 sh 145 [some (.ref c), some (.int v1), some (.int v2), some (.int v3), some (.int v4), some (.int v5), some (.int v6), some (.ref r6), some (.int r7)] [.int ((h10.1 r6 5) - 1)] h10 (some (.int res.2)) res.1
        refine ⟨(rowsOf_S hS.2.1 hr6).1, ?_⟩
        obtain rfl := Option.some.inj hf
        have hk : (h10, ((h10.1 r6 5) - 1)) = res := hk
        subst hk
        exact Fx.iret (by decide +kernel) rfl
      · replace hf := ifn b8 hf
        refine Fx.run [(.aload_n 0, 1, 0, 0, .null), (.getfield 12, 3, 8, 0, .ref 1), (.getfield 41, 3, 5, 3, .ref 19), (.iconst 2, 1, 0, 0, .int 2), (.iconst 0, 1, 0, 0, .int 0)] 94 (by decide +kernel) ?_
        show isK sh c 8 ∧ isK sh (c + 1) 5 ∧ Fx q_TJ_add 3 sh 94 [some (.ref c), some (.int v1), some (.int v2), some (.int v3), some (.int v4), some (.int v5), some (.int v6), some (.ref r6), some (.int r7)] [.int 0, .int 2, .ref ((c + 1) + 19)] h2 (some (.int res.2)) res.1
        refine ⟨hS.1, hS.2.1.1, ?_⟩
        replace hf := bnd hf
        obtain ⟨h12, hr11, hf⟩ := hf
        refine Fx.callV (rr := none) (hp1 := h12) [.int 2, .int 0] [] lk_8_54 (by decide +kernel) (t_Tr_because sh ((c + 1) + 19) (hS.2.1.2.2.2.2.1) h2 2 0 h12 hr11) ⟨Nat.le_of_ble_eq_true rfl, Nat.le_of_ble_eq_true rfl⟩ (hS.2.1.2.2.2.2.1).1 (by decide) rfl (Nat.le_of_ble_eq_true rfl) ?_
        show Fx q_TJ_add 3 sh 97 [some (.ref c), some (.int v1), some (.int v2), some (.int v3), some (.int v4), some (.int v5), some (.int v6), some (.ref r6), some (.int r7)] [] h12 (some (.int res.2)) res.1
        refine Fx.run [(.aload_n 0, 1, 0, 0, .null), (.getfield 12, 3, 8, 0, .ref 1), (.getfield 41, 3, 5, 3, .ref 19), (.iload 8, 2, 8, 0, .null), (.aload 7, 2, 7, 0, .null), (.iload 8, 2, 8, 0, .null), (.iload_n 2, 1, 2, 0, .null), (.iload_n 3, 1, 3, 0, .null), (.iload 4, 2, 4, 0, .null), (.iload 5, 2, 5, 0, .null)] 116 (by decide +kernel) ?_
        show isK sh c 8 ∧ isK sh (c + 1) 5 ∧ Fx q_TJ_add 3 sh 116 [some (.ref c), some (.int v1), some (.int v2), some (.int v3), some (.int v4), some (.int v5), some (.int v6), some (.ref r6), some (.int r7)] [.int v5, .int v4, .int v3, .int v2, .int r7, .ref r6, .int r7, .ref ((c + 1) + 19)] h12 (some (.int res.2)) res.1
        refine ⟨hS.1, hS.2.1.1, ?_⟩
        replace hf := bnd hf
        obtain ⟨r13, hr13, hf⟩ := hf
        refine Fx.callV (rr := (some (.int r13))) (hp1 := h12) [.int r7, .int v2, .int v3, .int v4, .int v5] [.int r7, .ref ((c + 1) + 19)] lk_8_115 (by decide +kernel) (t_Ro_measureOf sh r6 ((rowsOf_S hS.2.1 hr6)) h12 r7 v2 v3 v4 v5 r13 hr13) ⟨Nat.le_of_ble_eq_true rfl, Nat.le_of_ble_eq_true rfl⟩ ((rowsOf_S hS.2.1 hr6)).1 (by decide) rfl (Nat.le_of_ble_eq_true rfl) ?_
        show Fx q_TJ_add 3 sh 119 [some (.ref c), some (.int v1), some (.int v2), some (.int v3), some (.int v4), some (.int v5), some (.int v6), some (.ref r6), some (.int r7)] [.int r13, .int r7, .ref ((c + 1) + 19)] h12 (some (.int res.2)) res.1
        replace hf := bnd hf
        obtain ⟨h15, hr14, hf⟩ := hf
        refine Fx.callV (rr := none) (hp1 := h15) [.int r7, .int r13] [] lk_8_54 (by decide +kernel) (t_Tr_because sh ((c + 1) + 19) (hS.2.1.2.2.2.2.1) h12 r7 r13 h15 hr14) ⟨Nat.le_of_ble_eq_true rfl, Nat.le_of_ble_eq_true rfl⟩ (hS.2.1.2.2.2.2.1).1 (by decide) rfl (Nat.le_of_ble_eq_true rfl) ?_
        show Fx q_TJ_add 3 sh 122 [some (.ref c), some (.int v1), some (.int v2), some (.int v3), some (.int v4), some (.int v5), some (.int v6), some (.ref r6), some (.int r7)] [] h15 (some (.int res.2)) res.1
        refine Fx.run [(.iconst (-1), 1, 0, 0, .int (-1))] 123 (by decide +kernel) ?_
        show Fx q_TJ_add 3 sh 123 [some (.ref c), some (.int v1), some (.int v2), some (.int v3), some (.int v4), some (.int v5), some (.int v6), some (.ref r6), some (.int r7)] [.int (-1)] h15 (some (.int res.2)) res.1
        obtain rfl := Option.some.inj hf
        have hk : (h15, (-1)) = res := hk
        subst hk
        exact Fx.iret (by decide +kernel) rfl
    · replace hf := ifn b5 hf
      refine Fx.run [(.aload_n 0, 1, 0, 0, .null), (.getfield 12, 3, 8, 0, .ref 1), (.getfield 41, 3, 5, 3, .ref 19), (.bipush 8, 2, 0, 0, .int 8), (.aload_n 0, 1, 0, 0, .null), (.getfield 12, 3, 8, 0, .ref 1), (.getfield 58, 3, 5, 4, .ref 22), (.getfield 68, 3, 1, 2, .null)] 52 (by decide +kernel) ?_
      show isK sh c 8 ∧ isK sh (c + 1) 5 ∧ isK sh c 8 ∧ isK sh (c + 1) 5 ∧ isK sh ((c + 1) + 22) 1 ∧ Fx q_TJ_add 3 sh 52 [some (.ref c), some (.int v1), some (.int v2), some (.int v3), some (.int v4), some (.int v5), some (.int v6), none, none] [.int (h2.1 ((c + 1) + 22) 2), .int 8, .ref ((c + 1) + 19)] h2 (some (.int res.2)) res.1
      refine ⟨hS.1, hS.2.1.1, hS.1, hS.2.1.1, hS.2.1.2.2.2.2.2.1.1, ?_⟩
      replace hf := bnd hf
      obtain ⟨h17, hr16, hf⟩ := hf
      refine Fx.callV (rr := none) (hp1 := h17) [.int 8, .int (h2.1 ((c + 1) + 22) 2)] [] lk_8_54 (by decide +kernel) (t_Tr_because sh ((c + 1) + 19) (hS.2.1.2.2.2.2.1) h2 8 (h2.1 ((c + 1) + 22) 2) h17 hr16) ⟨Nat.le_of_ble_eq_true rfl, Nat.le_of_ble_eq_true rfl⟩ (hS.2.1.2.2.2.2.1).1 (by decide) rfl (Nat.le_of_ble_eq_true rfl) ?_
      show Fx q_TJ_add 3 sh 55 [some (.ref c), some (.int v1), some (.int v2), some (.int v3), some (.int v4), some (.int v5), some (.int v6), none, none] [] h17 (some (.int res.2)) res.1
      refine Fx.run [(.iconst (-1), 1, 0, 0, .int (-1))] 56 (by decide +kernel) ?_
      show Fx q_TJ_add 3 sh 56 [some (.ref c), some (.int v1), some (.int v2), some (.int v3), some (.int v4), some (.int v5), some (.int v6), none, none] [.int (-1)] h17 (some (.int res.2)) res.1
      obtain rfl := Option.some.inj hf
      have hk : (h17, (-1)) = res := hk
      subst hk
      exact Fx.iret (by decide +kernel) rfl
  · replace hf := ifp b4 hf
    refine Fx.run [(.bipush (-2), 2, 0, 0, .int (-2))] 19 (by decide +kernel) ?_
    show Fx q_TJ_add 3 sh 19 [some (.ref c), some (.int v1), some (.int v2), some (.int v3), some (.int v4), some (.int v5), some (.int v6), none, none] [.int (-2)] h2 (some (.int res.2)) res.1
    obtain rfl := Option.some.inj hf
    have hk : (h2, (-2)) = res := hk
    subst hk
    exact Fx.iret (by decide +kernel) rfl
set_option maxHeartbeats 4000000 in
set_option maxRecDepth 20000 in
theorem t_TJ_trouble (sh : Shp) (c : Nat) (hS : S_TJ sh c) (hp : HP) (v1 : Int32) (v2 : Int32) (res : Int32) (hf : f_TJ_trouble c hp v1 v2 = some res) : Ex 1 q_TJ_trouble sh [.ref c, .int v1, .int v2] hp (some (.int res)) hp := by
  refine Ex.of [some (.ref c), some (.int v1), some (.int v2), none] rfl (Nat.le_of_ble_eq_true rfl) (by decide +kernel) rfl ?_
  obtain ⟨t, hk⟩ : ∃ t, t = res := ⟨res, rfl⟩
  rw [← hk] at hf
  unfold f_TJ_trouble at hf
  refine Fx.run [(.aload_n 0, 1, 0, 0, .null), (.getfield 12, 3, 8, 0, .ref 1), (.getfield 41, 3, 5, 3, .ref 19), (.astore_n 3, 1, 3, 0, .null), (.iload_n 1, 1, 1, 0, .null), (.iconst (-1), 1, 0, 0, .int (-1))] 10 (by decide +kernel) ?_
  show isK sh c 8 ∧ isK sh (c + 1) 5 ∧ Fx q_TJ_trouble 1 sh 10 [some (.ref c), some (.int v1), some (.int v2), some (.ref ((c + 1) + 19))] [.int (-1), .int v1] hp (some (.int res)) hp
  refine ⟨hS.1, hS.2.1.1, ?_⟩
  refine Fx.icmp_ne (8) 18 13 (by decide +kernel) (fun b1 => ?_) (fun b1 => ?_)
  · replace hf := ifn b1 hf
    refine Fx.run [(.iload_n 1, 1, 1, 0, .null)] 19 (by decide +kernel) ?_
    show Fx q_TJ_trouble 1 sh 19 [some (.ref c), some (.int v1), some (.int v2), some (.ref ((c + 1) + 19))] [.int v1] hp (some (.int res)) hp
    refine Fx.if_lt (11) 30 22 (by decide +kernel) (fun b2 => ?_) (fun b2 => ?_)
    · replace hf := ifp b2 hf
      refine Fx.run [(.ldc 123, 2, 0, 0, .int (-10000000))] 32 (by decide +kernel) ?_
      show Fx q_TJ_trouble 1 sh 32 [some (.ref c), some (.int v1), some (.int v2), some (.ref ((c + 1) + 19))] [.int (-10000000)] hp (some (.int res)) hp
      obtain rfl := Option.some.inj hf
      have hk : (-10000000) = res := hk
      subst hk
      exact Fx.iret (by decide +kernel) rfl
    · replace hf := ifn b2 hf
      refine Fx.run [(.iload_n 1, 1, 1, 0, .null), (.aload_n 3, 1, 3, 0, .null), (.getfield 122, 3, 6, 2, .null)] 27 (by decide +kernel) ?_
      show isK sh ((c + 1) + 19) 6 ∧ Fx q_TJ_trouble 1 sh 27 [some (.ref c), some (.int v1), some (.int v2), some (.ref ((c + 1) + 19))] [.int (hp.1 ((c + 1) + 19) 2), .int v1] hp (some (.int res)) hp
      refine ⟨hS.2.1.2.2.2.2.1.1, ?_⟩
      refine Fx.icmp_lt (6) 33 30 (by decide +kernel) (fun b3 => ?_) (fun b3 => ?_)
      · replace hf := ifp b3 hf
        refine Fx.run [(.iload_n 2, 1, 2, 0, .null)] 34 (by decide +kernel) ?_
        show Fx q_TJ_trouble 1 sh 34 [some (.ref c), some (.int v1), some (.int v2), some (.ref ((c + 1) + 19))] [.int v2] hp (some (.int res)) hp
        by_cases b6 : v2 = 0
        · replace hf := ifp b6 hf
          refine Fx.swX 0 60 b6 (by decide +kernel) ?_
          replace hf := gd hf
          obtain ⟨g4, hf⟩ := hf
          refine Fx.run [(.aload_n 3, 1, 3, 0, .null), (.getfield 124, 3, 6, 0, .ref 1), (.iload_n 1, 1, 1, 0, .null), (.iaload, 1, 3, 0, .null)] 66 (by decide +kernel) ?_
          show isK sh ((c + 1) + 19) 6 ∧ (isA sh (((c + 1) + 19) + 1) 10 3 ∧ inb v1 3) ∧ Fx q_TJ_trouble 1 sh 66 [some (.ref c), some (.int v1), some (.int v2), some (.ref ((c + 1) + 19))] [.int (hp.1 (((c + 1) + 19) + 1) (ix v1))] hp (some (.int res)) hp
          refine ⟨hS.2.1.2.2.2.2.1.1, ⟨hS.2.1.2.2.2.2.1.2.1, g4⟩, ?_⟩
          obtain rfl := Option.some.inj hf
          have hk : (hp.1 (((c + 1) + 19) + 1) (ix v1)) = res := hk
          subst hk
          exact Fx.iret (by decide +kernel) rfl
        replace hf := ifn b6 hf
        by_cases b7 : v2 = 1
        · replace hf := ifp b7 hf
          refine Fx.swX 1 67 b7 (by decide +kernel) ?_
          replace hf := gd hf
          obtain ⟨g5, hf⟩ := hf
          refine Fx.run [(.aload_n 3, 1, 3, 0, .null), (.getfield 127, 3, 6, 1, .ref 2), (.iload_n 1, 1, 1, 0, .null), (.iaload, 1, 3, 0, .null)] 73 (by decide +kernel) ?_
          show isK sh ((c + 1) + 19) 6 ∧ (isA sh (((c + 1) + 19) + 2) 10 3 ∧ inb v1 3) ∧ Fx q_TJ_trouble 1 sh 73 [some (.ref c), some (.int v1), some (.int v2), some (.ref ((c + 1) + 19))] [.int (hp.1 (((c + 1) + 19) + 2) (ix v1))] hp (some (.int res)) hp
          refine ⟨hS.2.1.2.2.2.2.1.1, ⟨hS.2.1.2.2.2.2.1.2.2, g5⟩, ?_⟩
          obtain rfl := Option.some.inj hf
          have hk : (hp.1 (((c + 1) + 19) + 2) (ix v1)) = res := hk
          subst hk
          exact Fx.iret (by decide +kernel) rfl
        replace hf := ifn b7 hf
        refine Fx.swD [0, 1] 74 (by decide +kernel) (List.forall_mem_cons.mpr ⟨b6, (List.forall_mem_cons.mpr ⟨b7, (fun _ h => absurd h List.not_mem_nil)⟩)⟩) ?_
        refine Fx.run [(.ldc 123, 2, 0, 0, .int (-10000000))] 76 (by decide +kernel) ?_
        show Fx q_TJ_trouble 1 sh 76 [some (.ref c), some (.int v1), some (.int v2), some (.ref ((c + 1) + 19))] [.int (-10000000)] hp (some (.int res)) hp
        obtain rfl := Option.some.inj hf
        have hk : (-10000000) = res := hk
        subst hk
        exact Fx.iret (by decide +kernel) rfl
      · replace hf := ifn b3 hf
        refine Fx.run [(.ldc 123, 2, 0, 0, .int (-10000000))] 32 (by decide +kernel) ?_
        show Fx q_TJ_trouble 1 sh 32 [some (.ref c), some (.int v1), some (.int v2), some (.ref ((c + 1) + 19))] [.int (-10000000)] hp (some (.int res)) hp
        obtain rfl := Option.some.inj hf
        have hk : (-10000000) = res := hk
        subst hk
        exact Fx.iret (by decide +kernel) rfl
  · replace hf := ifp b1 hf
    refine Fx.run [(.aload_n 3, 1, 3, 0, .null), (.getfield 122, 3, 6, 2, .null)] 17 (by decide +kernel) ?_
    show isK sh ((c + 1) + 19) 6 ∧ Fx q_TJ_trouble 1 sh 17 [some (.ref c), some (.int v1), some (.int v2), some (.ref ((c + 1) + 19))] [.int (hp.1 ((c + 1) + 19) 2)] hp (some (.int res)) hp
    refine ⟨hS.2.1.2.2.2.2.1.1, ?_⟩
    obtain rfl := Option.some.inj hf
    have hk : (hp.1 ((c + 1) + 19) 2) = res := hk
    subst hk
    exact Fx.iret (by decide +kernel) rfl
set_option maxHeartbeats 4000000 in
set_option maxRecDepth 20000 in
theorem t_Co_empty (sh : Shp) (c : Nat) (hS : S_Co sh c) (hp : HP)  (res : HP) (hf : f_Co_empty c hp  = some res) : Ex 1 q_Co_empty sh [.ref c] hp none res := by
  refine Ex.of [some (.ref c)] rfl (Nat.le_of_ble_eq_true rfl) (by decide +kernel) rfl ?_
  obtain ⟨t, hk⟩ : ∃ t, t = res := ⟨res, rfl⟩
  rw [← hk] at hf
  unfold f_Co_empty at hf
  refine Fx.run [(.aload_n 0, 1, 0, 0, .null), (.iconst 0, 1, 0, 0, .int 0), (.putfield 15, 3, 0, 1, .null)] 5 (by decide +kernel) ?_
  show isK sh c 0 ∧ Fx q_Co_empty 1 sh 5 [some (.ref c)] [] (upI hp c 1 0) none res
  refine ⟨hS.1, ?_⟩
  obtain rfl := Option.some.inj hf
  have hk : (upI hp c 1 0) = res := hk
  subst hk
  exact Fx.vret (by decide +kernel) rfl
abbrev P_Ro_countInRun_4 (sh : Shp) (c : Nat) (hp : HP) (v1 : Int32) (res : Int32) : (Int32 × Int32) → Prop := fun s => Fx q_Ro_countInRun 1 sh 4 [some (.ref c), some (.int v1), some (.int s.1), some (.int s.2)] [] hp (some (.int res)) hp
set_option maxHeartbeats 4000000 in
set_option maxRecDepth 20000 in
theorem t_Ro_countInRun_l4 (sh : Shp) (c : Nat) (hS : S_Ro sh c) (hp : HP) (v1 : Int32) (res : Int32) : ∀ (s : (Int32 × Int32)) (t : Int32), f_Ro_countInRun_l4 c hp v1 s = some t → (fun v => v = res) t → P_Ro_countInRun_4 sh c hp v1 res s := by
  refine loop_ind (P_Ro_countInRun_4 sh c hp v1 res) (fun v => v = res) ?_
  intro s t hf hk
  obtain ⟨v2, v3⟩ := s
  replace hf : f_Ro_countInRun_b4 c hp v1 v2 v3 = some t := hf
  show Fx q_Ro_countInRun 1 sh 4 [some (.ref c), some (.int v1), some (.int v2), some (.int v3)] [] hp (some (.int res)) hp
  unfold f_Ro_countInRun_b4 at hf
  refine Fx.run [(.iload_n 3, 1, 3, 0, .null), (.aload_n 0, 1, 0, 0, .null), (.getfield 27, 3, 4, 5, .null)] 9 (by decide +kernel) ?_
  show isK sh c 4 ∧ Fx q_Ro_countInRun 1 sh 9 [some (.ref c), some (.int v1), some (.int v2), some (.int v3)] [.int (hp.1 c 5), .int v3] hp (some (.int res)) hp
  refine ⟨hS.1, ?_⟩
  refine Fx.icmp_ge (22) 31 12 (by decide +kernel) (fun b1 => ?_) (fun b1 => ?_)
  · replace hf := ifp b1 hf
    replace hf := mpd hf
    obtain ⟨t, hf, rfl⟩ := hf
    refine Fx.run [(.iload_n 2, 1, 2, 0, .null)] 32 (by decide +kernel) ?_
    show Fx q_Ro_countInRun 1 sh 32 [some (.ref c), some (.int v1), some (.int v2), some (.int v3)] [.int v2] hp (some (.int res)) hp
    obtain rfl := Option.some.inj hf
    have hk : v2 = res := hk
    subst hk
    exact Fx.iret (by decide +kernel) rfl
  · replace hf := ifn b1 hf
    replace hf := gd hf
    obtain ⟨g2, hf⟩ := hf
    refine Fx.run [(.aload_n 0, 1, 0, 0, .null), (.getfield 9, 3, 4, 0, .ref 1), (.iload_n 3, 1, 3, 0, .null), (.iaload, 1, 40, 0, .null), (.iload_n 1, 1, 1, 0, .null)] 19 (by decide +kernel) ?_
    show isK sh c 4 ∧ (isA sh (c + 1) 10 40 ∧ inb v3 40) ∧ Fx q_Ro_countInRun 1 sh 19 [some (.ref c), some (.int v1), some (.int v2), some (.int v3)] [.int v1, .int (hp.1 (c + 1) (ix v3))] hp (some (.int res)) hp
    refine ⟨hS.1, ⟨hS.2.1, g2⟩, ?_⟩
    refine Fx.icmp_ne (6) 25 22 (by decide +kernel) (fun b3 => ?_) (fun b3 => ?_)
    · replace hf := ifn b3 hf
      refine Fx.run [(.iinc 3 1, 3, 3, 0, .int 1)] 28 (by decide +kernel) ?_
      show Fx q_Ro_countInRun 1 sh 28 [some (.ref c), some (.int v1), some (.int v2), some (.int (v3 + 1))] [] hp (some (.int res)) hp
      refine Fx.goto (-24) 4 (by decide +kernel) ?_
      obtain rfl := Option.some.inj hf
      have hk : Fx q_Ro_countInRun 1 sh 4 [some (.ref c), some (.int v1), some (.int v2), some (.int (v3 + 1))] [] hp (some (.int res)) hp := hk
      exact Fx.le hk (And.intro rfl (And.intro rfl (And.intro rfl (And.intro rfl trivial))))
    · replace hf := ifp b3 hf
      refine Fx.run [(.iinc 2 1, 3, 2, 0, .int 1), (.iinc 3 1, 3, 3, 0, .int 1)] 28 (by decide +kernel) ?_
      show Fx q_Ro_countInRun 1 sh 28 [some (.ref c), some (.int v1), some (.int (v2 + 1)), some (.int (v3 + 1))] [] hp (some (.int res)) hp
      refine Fx.goto (-24) 4 (by decide +kernel) ?_
      obtain rfl := Option.some.inj hf
      have hk : Fx q_Ro_countInRun 1 sh 4 [some (.ref c), some (.int v1), some (.int (v2 + 1)), some (.int (v3 + 1))] [] hp (some (.int res)) hp := hk
      exact Fx.le hk (And.intro rfl (And.intro rfl (And.intro rfl (And.intro rfl trivial))))
set_option maxHeartbeats 4000000 in
set_option maxRecDepth 20000 in
theorem t_Ro_countInRun (sh : Shp) (c : Nat) (hS : S_Ro sh c) (hp : HP) (v1 : Int32) (res : Int32) (hf : f_Ro_countInRun c hp v1 = some res) : Ex 1 q_Ro_countInRun sh [.ref c, .int v1] hp (some (.int res)) hp := by
  refine Ex.of [some (.ref c), some (.int v1), none, none] rfl (Nat.le_of_ble_eq_true rfl) (by decide +kernel) rfl ?_
  obtain ⟨t, hk⟩ : ∃ t, t = res := ⟨res, rfl⟩
  rw [← hk] at hf
  unfold f_Ro_countInRun at hf
  refine Fx.run [(.iconst 0, 1, 0, 0, .int 0), (.istore_n 2, 1, 2, 0, .null), (.iconst 0, 1, 0, 0, .int 0), (.istore_n 3, 1, 3, 0, .null)] 4 (by decide +kernel) ?_
  show Fx q_Ro_countInRun 1 sh 4 [some (.ref c), some (.int v1), some (.int 0), some (.int 0)] [] hp (some (.int res)) hp
  have hl := t_Ro_countInRun_l4 sh c hS hp v1 res (0, 0) _ hf hk
  have hl : Fx q_Ro_countInRun 1 sh 4 [some (.ref c), some (.int v1), some (.int 0), some (.int 0)] [] hp (some (.int res)) hp := hl
  exact Fx.le hl (And.intro rfl (And.intro rfl (And.intro rfl (And.intro rfl trivial))))
set_option maxHeartbeats 4000000 in
set_option maxRecDepth 20000 in
theorem t_Ro_has (sh : Shp) (c : Nat) (hS : S_Ro sh c) (hp : HP) (v1 : Int32) (res : Int32) (hf : f_Ro_has c hp v1 = some res) : Ex 1 q_Ro_has sh [.ref c, .int v1] hp (some (.int res)) hp := by
  refine Ex.of [some (.ref c), some (.int v1)] rfl (Nat.le_of_ble_eq_true rfl) (by decide +kernel) rfl ?_
  obtain ⟨t, hk⟩ : ∃ t, t = res := ⟨res, rfl⟩
  rw [← hk] at hf
  unfold f_Ro_has at hf
  refine Fx.run [(.iload_n 1, 1, 1, 0, .null)] 1 (by decide +kernel) ?_
  show Fx q_Ro_has 1 sh 1 [some (.ref c), some (.int v1)] [.int v1] hp (some (.int res)) hp
  refine Fx.if_lt (15) 16 4 (by decide +kernel) (fun b1 => ?_) (fun b1 => ?_)
  · replace hf := ifp b1 hf
    refine Fx.run [(.iconst 0, 1, 0, 0, .int 0)] 17 (by decide +kernel) ?_
    show Fx q_Ro_has 1 sh 17 [some (.ref c), some (.int v1)] [.int 0] hp (some (.int res)) hp
    obtain rfl := Option.some.inj hf
    have hk : 0 = res := hk
    subst hk
    exact Fx.zret (by decide +kernel) rfl (Or.inl rfl)
  · replace hf := ifn b1 hf
    refine Fx.run [(.iload_n 1, 1, 1, 0, .null), (.aload_n 0, 1, 0, 0, .null), (.getfield 27, 3, 4, 5, .null)] 9 (by decide +kernel) ?_
    show isK sh c 4 ∧ Fx q_Ro_has 1 sh 9 [some (.ref c), some (.int v1)] [.int (hp.1 c 5), .int v1] hp (some (.int res)) hp
    refine ⟨hS.1, ?_⟩
    refine Fx.icmp_ge (7) 16 12 (by decide +kernel) (fun b2 => ?_) (fun b2 => ?_)
    · replace hf := ifp b2 hf
      refine Fx.run [(.iconst 0, 1, 0, 0, .int 0)] 17 (by decide +kernel) ?_
      show Fx q_Ro_has 1 sh 17 [some (.ref c), some (.int v1)] [.int 0] hp (some (.int res)) hp
      obtain rfl := Option.some.inj hf
      have hk : 0 = res := hk
      subst hk
      exact Fx.zret (by decide +kernel) rfl (Or.inl rfl)
    · replace hf := ifn b2 hf
      refine Fx.run [(.iconst 1, 1, 0, 0, .int 1)] 13 (by decide +kernel) ?_
      show Fx q_Ro_has 1 sh 13 [some (.ref c), some (.int v1)] [.int 1] hp (some (.int res)) hp
      refine Fx.goto (4) 17 (by decide +kernel) ?_
      obtain rfl := Option.some.inj hf
      have hk : 1 = res := hk
      subst hk
      exact Fx.zret (by decide +kernel) rfl (Or.inr rfl)
set_option maxHeartbeats 4000000 in
set_option maxRecDepth 20000 in
theorem t_Ro_startPlace (sh : Shp) (c : Nat) (hS : S_Ro sh c) (hp : HP) (v1 : Int32) (res : Int32) (hf : f_Ro_startPlace c hp v1 = some res) : Ex 2 q_Ro_startPlace sh [.ref c, .int v1] hp (some (.int res)) hp := by
  refine Ex.of [some (.ref c), some (.int v1)] rfl (Nat.le_of_ble_eq_true rfl) (by decide +kernel) rfl ?_
  obtain ⟨t, hk⟩ : ∃ t, t = res := ⟨res, rfl⟩
  rw [← hk] at hf
  unfold f_Ro_startPlace at hf
  refine Fx.run [(.aload_n 0, 1, 0, 0, .null), (.iload_n 1, 1, 1, 0, .null)] 2 (by decide +kernel) ?_
  show Fx q_Ro_startPlace 2 sh 2 [some (.ref c), some (.int v1)] [.int v1, .ref c] hp (some (.int res)) hp
  replace hf := bnd hf
  obtain ⟨r1, hr1, hf⟩ := hf
  refine Fx.callV (rr := (some (.int r1))) (hp1 := hp) [.int v1] [] lk_4_51 (by decide +kernel) (t_Ro_has sh c (hS) hp v1 r1 hr1) ⟨Nat.le_of_ble_eq_true rfl, Nat.le_of_ble_eq_true rfl⟩ (hS).1 (by decide) rfl (Nat.le_of_ble_eq_true rfl) ?_
  show Fx q_Ro_startPlace 2 sh 5 [some (.ref c), some (.int v1)] [.int r1] hp (some (.int res)) hp
  refine Fx.if_eq (14) 19 8 (by decide +kernel) (fun b2 => ?_) (fun b2 => ?_)
  · replace hf := ifp b2 hf
    refine Fx.run [(.iconst 0, 1, 0, 0, .int 0)] 20 (by decide +kernel) ?_
    show Fx q_Ro_startPlace 2 sh 20 [some (.ref c), some (.int v1)] [.int 0] hp (some (.int res)) hp
    obtain rfl := Option.some.inj hf
    have hk : 0 = res := hk
    subst hk
    exact Fx.iret (by decide +kernel) rfl
  · replace hf := ifn b2 hf
    replace hf := gd hf
    obtain ⟨g3, hf⟩ := hf
    refine Fx.run [(.iconst 2, 1, 0, 0, .int 2), (.aload_n 0, 1, 0, 0, .null), (.getfield 18, 3, 4, 2, .ref 3), (.iload_n 1, 1, 1, 0, .null), (.iaload, 1, 40, 0, .null), (.imul, 1, 0, 0, .null)] 16 (by decide +kernel) ?_
    show isK sh c 4 ∧ (isA sh (c + 3) 10 40 ∧ inb v1 40) ∧ Fx q_Ro_startPlace 2 sh 16 [some (.ref c), some (.int v1)] [.int (2 * (hp.1 (c + 3) (ix v1)))] hp (some (.int res)) hp
    refine ⟨hS.1, ⟨hS.2.2.2.1, g3⟩, ?_⟩
    refine Fx.goto (4) 20 (by decide +kernel) ?_
    obtain rfl := Option.some.inj hf
    have hk : (2 * (hp.1 (c + 3) (ix v1))) = res := hk
    subst hk
    exact Fx.iret (by decide +kernel) rfl
set_option maxHeartbeats 4000000 in
set_option maxRecDepth 20000 in
theorem t_Cu_eventCode (sh : Shp) (hp : HP) (v0 : Int32) (v1 : Int32) (v2 : Int32) (v3 : Int32) (res : Int32) (hf : f_Cu_eventCode v0 v1 v2 v3 = some res) : Ex 1 q_Cu_eventCode sh [.int v0, .int v1, .int v2, .int v3] hp (some (.int res)) hp := by
  refine Ex.of [some (.int v0), some (.int v1), some (.int v2), some (.int v3)] rfl (Nat.le_of_ble_eq_true rfl) (by decide +kernel) rfl ?_
  obtain ⟨t, hk⟩ : ∃ t, t = res := ⟨res, rfl⟩
  rw [← hk] at hf
  unfold f_Cu_eventCode at hf
  refine Fx.run [(.iload_n 0, 1, 0, 0, .null), (.ldc 111, 2, 0, 0, .int 2000000), (.iadd, 1, 0, 0, .null), (.bipush 8, 2, 0, 0, .int 8), (.ishl, 1, 0, 0, .null), (.iload_n 1, 1, 1, 0, .null), (.bipush 7, 2, 0, 0, .int 7), (.ishl, 1, 0, 0, .null), (.iadd, 1, 0, 0, .null), (.iload_n 2, 1, 2, 0, .null), (.bipush 6, 2, 0, 0, .int 6), (.ishl, 1, 0, 0, .null), (.iadd, 1, 0, 0, .null), (.iload_n 3, 1, 3, 0, .null), (.iadd, 1, 0, 0, .null)] 19 (by decide +kernel) ?_
  show Fx q_Cu_eventCode 1 sh 19 [some (.int v0), some (.int v1), some (.int v2), some (.int v3)] [.int (((((v0 + 2000000) <<< (8 &&& 31)) + (v1 <<< (7 &&& 31))) + (v2 <<< (6 &&& 31))) + v3)] hp (some (.int res)) hp
  obtain rfl := Option.some.inj hf
  have hk : (((((v0 + 2000000) <<< (8 &&& 31)) + (v1 <<< (7 &&& 31))) + (v2 <<< (6 &&& 31))) + v3) = res := hk
  subst hk
  exact Fx.iret (by decide +kernel) rfl
set_option maxHeartbeats 4000000 in
set_option maxRecDepth 20000 in
theorem t_Co_put (sh : Shp) (c : Nat) (hS : S_Co sh c) (hp : HP) (v1 : Int64) (res : HP) (hf : f_Co_put c hp v1 = some res) : Ex 1 q_Co_put sh [.ref c, .long v1] hp none res := by
  refine Ex.of [some (.ref c), some (.long v1), none] rfl (Nat.le_of_ble_eq_true rfl) (by decide +kernel) rfl ?_
  obtain ⟨t, hk⟩ : ∃ t, t = res := ⟨res, rfl⟩
  rw [← hk] at hf
  unfold f_Co_put at hf
  refine Fx.run [(.aload_n 0, 1, 0, 0, .null), (.getfield 15, 3, 0, 1, .null), (.sipush 160, 3, 0, 0, .int 160)] 7 (by decide +kernel) ?_
  show isK sh c 0 ∧ Fx q_Co_put 1 sh 7 [some (.ref c), some (.long v1), none] [.int 160, .int (hp.1 c 1)] hp none res
  refine ⟨hS.1, ?_⟩
  refine Fx.icmp_ge (23) 30 10 (by decide +kernel) (fun b1 => ?_) (fun b1 => ?_)
  · replace hf := ifp b1 hf
    obtain rfl := Option.some.inj hf
    have hk : hp = res := hk
    subst hk
    exact Fx.vret (by decide +kernel) rfl
  · replace hf := ifn b1 hf
    replace hf := gd hf
    obtain ⟨g2, hf⟩ := hf
    refine Fx.run [(.aload_n 0, 1, 0, 0, .null), (.getfield 9, 3, 0, 0, .ref 1), (.aload_n 0, 1, 0, 0, .null), (.getfield 15, 3, 0, 1, .null), (.lload_n 1, 1, 1, 0, .null), (.lastore, 1, 160, 0, .null), (.aload_n 0, 1, 0, 0, .null), (.dup, 1, 0, 0, .null), (.getfield 15, 3, 0, 1, .null), (.iconst 1, 1, 0, 0, .int 1), (.iadd, 1, 0, 0, .null), (.putfield 15, 3, 0, 1, .null)] 30 (by decide +kernel) ?_
    show isK sh c 0 ∧ isK sh c 0 ∧ (isA sh (c + 1) 11 160 ∧ inb (hp.1 c 1) 160) ∧ isK sh c 0 ∧ isK sh c 0 ∧ Fx q_Co_put 1 sh 30 [some (.ref c), some (.long v1), none] [] (upI (upJ hp (c + 1) (ix (hp.1 c 1)) v1) c 1 (((upJ hp (c + 1) (ix (hp.1 c 1)) v1).1 c 1) + 1)) none res
    refine ⟨hS.1, hS.1, ⟨hS.2, g2⟩, hS.1, hS.1, ?_⟩
    obtain rfl := Option.some.inj hf
    have hk : (upI (upJ hp (c + 1) (ix (hp.1 c 1)) v1) c 1 (((upJ hp (c + 1) (ix (hp.1 c 1)) v1).1 c 1) + 1)) = res := hk
    subst hk
    exact Fx.vret (by decide +kernel) rfl
set_option maxHeartbeats 4000000 in
set_option maxRecDepth 20000 in
theorem t_Ro_endPlace (sh : Shp) (c : Nat) (hS : S_Ro sh c) (hp : HP) (v1 : Int32) (res : Int32) (hf : f_Ro_endPlace c hp v1 = some res) : Ex 2 q_Ro_endPlace sh [.ref c, .int v1] hp (some (.int res)) hp := by
  refine Ex.of [some (.ref c), some (.int v1)] rfl (Nat.le_of_ble_eq_true rfl) (by decide +kernel) rfl ?_
  obtain ⟨t, hk⟩ : ∃ t, t = res := ⟨res, rfl⟩
  rw [← hk] at hf
  unfold f_Ro_endPlace at hf
  refine Fx.run [(.aload_n 0, 1, 0, 0, .null), (.iload_n 1, 1, 1, 0, .null)] 2 (by decide +kernel) ?_
  show Fx q_Ro_endPlace 2 sh 2 [some (.ref c), some (.int v1)] [.int v1, .ref c] hp (some (.int res)) hp
  replace hf := bnd hf
  obtain ⟨r1, hr1, hf⟩ := hf
  refine Fx.callV (rr := (some (.int r1))) (hp1 := hp) [.int v1] [] lk_4_51 (by decide +kernel) (t_Ro_has sh c (hS) hp v1 r1 hr1) ⟨Nat.le_of_ble_eq_true rfl, Nat.le_of_ble_eq_true rfl⟩ (hS).1 (by decide) rfl (Nat.le_of_ble_eq_true rfl) ?_
  show Fx q_Ro_endPlace 2 sh 5 [some (.ref c), some (.int v1)] [.int r1] hp (some (.int res)) hp
  refine Fx.if_ne (5) 10 8 (by decide +kernel) (fun b2 => ?_) (fun b2 => ?_)
  · replace hf := ifn b2 hf
    replace hf := gd hf
    obtain ⟨g3, hf⟩ := hf
    replace hf := gd hf
    obtain ⟨g4, hf⟩ := hf
    refine Fx.run [(.aload_n 0, 1, 0, 0, .null), (.getfield 18, 3, 4, 2, .ref 3), (.iload_n 1, 1, 1, 0, .null), (.iaload, 1, 40, 0, .null), (.aload_n 0, 1, 0, 0, .null), (.getfield 21, 3, 4, 3, .ref 4), (.iload_n 1, 1, 1, 0, .null), (.iaload, 1, 40, 0, .null)] 22 (by decide +kernel) ?_
    show isK sh c 4 ∧ (isA sh (c + 3) 10 40 ∧ inb v1 40) ∧ isK sh c 4 ∧ (isA sh (c + 4) 10 40 ∧ inb v1 40) ∧ Fx q_Ro_endPlace 2 sh 22 [some (.ref c), some (.int v1)] [.int (hp.1 (c + 4) (ix v1)), .int (hp.1 (c + 3) (ix v1))] hp (some (.int res)) hp
    refine ⟨hS.1, ⟨hS.2.2.2.1, g3⟩, hS.1, ⟨hS.2.2.2.2.1, g4⟩, ?_⟩
    refine Fx.icmp_ne (16) 38 25 (by decide +kernel) (fun b5 => ?_) (fun b5 => ?_)
    · replace hf := ifn b5 hf
      replace hf := gd hf
      obtain ⟨g6, hf⟩ := hf
      refine Fx.run [(.iconst 2, 1, 0, 0, .int 2), (.aload_n 0, 1, 0, 0, .null), (.getfield 21, 3, 4, 3, .ref 4), (.iload_n 1, 1, 1, 0, .null), (.iaload, 1, 40, 0, .null), (.imul, 1, 0, 0, .null)] 46 (by decide +kernel) ?_
      show isK sh c 4 ∧ (isA sh (c + 4) 10 40 ∧ inb v1 40) ∧ Fx q_Ro_endPlace 2 sh 46 [some (.ref c), some (.int v1)] [.int (2 * (hp.1 (c + 4) (ix v1)))] hp (some (.int res)) hp
      refine ⟨hS.1, ⟨hS.2.2.2.2.1, g6⟩, ?_⟩
      obtain rfl := Option.some.inj hf
      have hk : (2 * (hp.1 (c + 4) (ix v1))) = res := hk
      subst hk
      exact Fx.iret (by decide +kernel) rfl
    · replace hf := ifp b5 hf
      replace hf := gd hf
      obtain ⟨g7, hf⟩ := hf
      refine Fx.run [(.iconst 2, 1, 0, 0, .int 2), (.aload_n 0, 1, 0, 0, .null), (.getfield 21, 3, 4, 3, .ref 4), (.iload_n 1, 1, 1, 0, .null), (.iaload, 1, 40, 0, .null), (.imul, 1, 0, 0, .null), (.iconst 1, 1, 0, 0, .int 1), (.iadd, 1, 0, 0, .null)] 35 (by decide +kernel) ?_
      show isK sh c 4 ∧ (isA sh (c + 4) 10 40 ∧ inb v1 40) ∧ Fx q_Ro_endPlace 2 sh 35 [some (.ref c), some (.int v1)] [.int ((2 * (hp.1 (c + 4) (ix v1))) + 1)] hp (some (.int res)) hp
      refine ⟨hS.1, ⟨hS.2.2.2.2.1, g7⟩, ?_⟩
      refine Fx.goto (11) 46 (by decide +kernel) ?_
      obtain rfl := Option.some.inj hf
      have hk : ((2 * (hp.1 (c + 4) (ix v1))) + 1) = res := hk
      subst hk
      exact Fx.iret (by decide +kernel) rfl
  · replace hf := ifp b2 hf
    refine Fx.run [(.iconst 0, 1, 0, 0, .int 0)] 9 (by decide +kernel) ?_
    show Fx q_Ro_endPlace 2 sh 9 [some (.ref c), some (.int v1)] [.int 0] hp (some (.int res)) hp
    obtain rfl := Option.some.inj hf
    have hk : 0 = res := hk
    subst hk
    exact Fx.iret (by decide +kernel) rfl
abbrev P_Co_sort_2 (sh : Shp) (c : Nat)  (res : HP) : (HP × Int32) → Prop := fun s => Fx q_Co_sort 1 sh 2 [some (.ref c), some (.int s.2), none, none, none] [] s.1 none res
abbrev P_Co_sort_20 (sh : Shp) (c : Nat) (v1 : Int32) (v2 : Int64) (res : HP) : (HP × Int32) → Prop := fun s => Fx q_Co_sort 1 sh 20 [some (.ref c), some (.int v1), some (.long v2), none, some (.int s.2)] [] s.1 none res
set_option maxHeartbeats 4000000 in
set_option maxRecDepth 20000 in
theorem t_Co_sort_l20 (sh : Shp) (c : Nat) (hS : S_Co sh c) (hp : HP) (v1 : Int32) (v2 : Int64) (res : HP) : ∀ (s : (HP × Int32)) (t : ((HP × Int32) ⊕ HP)), f_Co_sort_l20 c hp v1 v2 s = some t → (Kel (P_Co_sort_2 sh c  res) (fun v => v = res)) t → P_Co_sort_20 sh c v1 v2 res s := by
  refine loop_ind (P_Co_sort_20 sh c v1 v2 res) (Kel (P_Co_sort_2 sh c  res) (fun v => v = res)) ?_
  intro s t hf hk
  obtain ⟨hp, v4⟩ := s
  replace hf : f_Co_sort_b20 c hp v1 v2 v4 = some t := hf
  show Fx q_Co_sort 1 sh 20 [some (.ref c), some (.int v1), some (.long v2), none, some (.int v4)] [] hp none res
  unfold f_Co_sort_b20 at hf
  refine Fx.run [(.iload 4, 2, 4, 0, .null)] 22 (by decide +kernel) ?_
  show Fx q_Co_sort 1 sh 22 [some (.ref c), some (.int v1), some (.long v2), none, some (.int v4)] [.int v4] hp none res
  refine Fx.if_le (39) 61 25 (by decide +kernel) (fun b3 => ?_) (fun b3 => ?_)
  · replace hf := ifp b3 hf
    replace hf := mpd hf
    obtain ⟨t, hf, rfl⟩ := hf
    replace hf := gd hf
    obtain ⟨g4, hf⟩ := hf
    refine Fx.run [(.aload_n 0, 1, 0, 0, .null), (.getfield 9, 3, 0, 0, .ref 1), (.iload 4, 2, 4, 0, .null), (.lload_n 2, 1, 2, 0, .null), (.lastore, 1, 160, 0, .null), (.iinc 1 1, 3, 1, 0, .int 1)] 72 (by decide +kernel) ?_
    show isK sh c 0 ∧ (isA sh (c + 1) 11 160 ∧ inb v4 160) ∧ Fx q_Co_sort 1 sh 72 [some (.ref c), some (.int (v1 + 1)), some (.long v2), none, some (.int v4)] [] (upJ hp (c + 1) (ix v4) v2) none res
    refine ⟨hS.1, ⟨hS.2, g4⟩, ?_⟩
    refine Fx.goto (-70) 2 (by decide +kernel) ?_
    obtain rfl := Option.some.inj hf
    have hk : Fx q_Co_sort 1 sh 2 [some (.ref c), some (.int (v1 + 1)), none, none, none] [] (upJ hp (c + 1) (ix v4) v2) none res := hk
    exact Fx.le hk (And.intro rfl (And.intro rfl trivial))
  · replace hf := ifn b3 hf
    replace hf := gd hf
    obtain ⟨g5, hf⟩ := hf
    refine Fx.run [(.aload_n 0, 1, 0, 0, .null), (.getfield 9, 3, 0, 0, .ref 1), (.iload 4, 2, 4, 0, .null), (.iconst 1, 1, 0, 0, .int 1), (.isub, 1, 0, 0, .null), (.laload, 1, 160, 0, .null), (.lload_n 2, 1, 2, 0, .null), (.lcmp, 1, 0, 0, .null)] 36 (by decide +kernel) ?_
    show isK sh c 0 ∧ (isA sh (c + 1) 11 160 ∧ inb (v4 - 1) 160) ∧ Fx q_Co_sort 1 sh 36 [some (.ref c), some (.int v1), some (.long v2), none, some (.int v4)] [.int (lg_cmp (hp.2 (c + 1) (ix (v4 - 1))) v2)] hp none res
    refine ⟨hS.1, ⟨hS.2, g5⟩, ?_⟩
    refine Fx.if_le (25) 61 39 (by decide +kernel) (fun b6 => ?_) (fun b6 => ?_)
    · replace hf := ifp b6 hf
      replace hf := mpd hf
      obtain ⟨t, hf, rfl⟩ := hf
      replace hf := gd hf
      obtain ⟨g7, hf⟩ := hf
      refine Fx.run [(.aload_n 0, 1, 0, 0, .null), (.getfield 9, 3, 0, 0, .ref 1), (.iload 4, 2, 4, 0, .null), (.lload_n 2, 1, 2, 0, .null), (.lastore, 1, 160, 0, .null), (.iinc 1 1, 3, 1, 0, .int 1)] 72 (by decide +kernel) ?_
      show isK sh c 0 ∧ (isA sh (c + 1) 11 160 ∧ inb v4 160) ∧ Fx q_Co_sort 1 sh 72 [some (.ref c), some (.int (v1 + 1)), some (.long v2), none, some (.int v4)] [] (upJ hp (c + 1) (ix v4) v2) none res
      refine ⟨hS.1, ⟨hS.2, g7⟩, ?_⟩
      refine Fx.goto (-70) 2 (by decide +kernel) ?_
      obtain rfl := Option.some.inj hf
      have hk : Fx q_Co_sort 1 sh 2 [some (.ref c), some (.int (v1 + 1)), none, none, none] [] (upJ hp (c + 1) (ix v4) v2) none res := hk
      exact Fx.le hk (And.intro rfl (And.intro rfl trivial))
    · replace hf := ifn b6 hf
      replace hf := gd hf
      obtain ⟨g8, hf⟩ := hf
      replace hf := gd hf
      obtain ⟨g9, hf⟩ := hf
      refine Fx.run [(.aload_n 0, 1, 0, 0, .null), (.getfield 9, 3, 0, 0, .ref 1), (.iload 4, 2, 4, 0, .null), (.aload_n 0, 1, 0, 0, .null), (.getfield 9, 3, 0, 0, .ref 1), (.iload 4, 2, 4, 0, .null), (.iconst 1, 1, 0, 0, .int 1), (.isub, 1, 0, 0, .null), (.laload, 1, 160, 0, .null), (.lastore, 1, 160, 0, .null), (.iinc 4 (-1), 3, 4, 0, .int (-1))] 58 (by decide +kernel) ?_
      show isK sh c 0 ∧ isK sh c 0 ∧ (isA sh (c + 1) 11 160 ∧ inb (v4 - 1) 160) ∧ (isA sh (c + 1) 11 160 ∧ inb v4 160) ∧ Fx q_Co_sort 1 sh 58 [some (.ref c), some (.int v1), some (.long v2), none, some (.int (v4 + (-1)))] [] (upJ hp (c + 1) (ix v4) (hp.2 (c + 1) (ix (v4 - 1)))) none res
      refine ⟨hS.1, hS.1, ⟨hS.2, g8⟩, ⟨hS.2, g9⟩, ?_⟩
      refine Fx.goto (-38) 20 (by decide +kernel) ?_
      obtain rfl := Option.some.inj hf
      have hk : Fx q_Co_sort 1 sh 20 [some (.ref c), some (.int v1), some (.long v2), none, some (.int (v4 + (-1)))] [] (upJ hp (c + 1) (ix v4) (hp.2 (c + 1) (ix (v4 - 1)))) none res := hk
      exact Fx.le hk (And.intro rfl (And.intro rfl (And.intro rfl (And.intro rfl trivial))))
set_option maxHeartbeats 4000000 in
set_option maxRecDepth 20000 in
theorem t_Co_sort_l2 (sh : Shp) (c : Nat) (hS : S_Co sh c) (hp : HP)  (res : HP) : ∀ (s : (HP × Int32)) (t : HP), f_Co_sort_l2 c hp  s = some t → (fun v => v = res) t → P_Co_sort_2 sh c  res s := by
  refine loop_ind (P_Co_sort_2 sh c  res) (fun v => v = res) ?_
  intro s t hf hk
  obtain ⟨hp, v1⟩ := s
  replace hf : f_Co_sort_b2 c hp  v1 = some t := hf
  show Fx q_Co_sort 1 sh 2 [some (.ref c), some (.int v1), none, none, none] [] hp none res
  unfold f_Co_sort_b2 at hf
  refine Fx.run [(.iload_n 1, 1, 1, 0, .null), (.aload_n 0, 1, 0, 0, .null), (.getfield 15, 3, 0, 1, .null)] 7 (by decide +kernel) ?_
  show isK sh c 0 ∧ Fx q_Co_sort 1 sh 7 [some (.ref c), some (.int v1), none, none, none] [.int (hp.1 c 1), .int v1] hp none res
  refine ⟨hS.1, ?_⟩
  refine Fx.icmp_ge (68) 75 10 (by decide +kernel) (fun b1 => ?_) (fun b1 => ?_)
  · replace hf := ifp b1 hf
    replace hf := mpd hf
    obtain ⟨t, hf, rfl⟩ := hf
    obtain rfl := Option.some.inj hf
    have hk : hp = res := hk
    subst hk
    exact Fx.vret (by decide +kernel) rfl
  · replace hf := ifn b1 hf
    replace hf := gd hf
    obtain ⟨g2, hf⟩ := hf
    refine Fx.run [(.aload_n 0, 1, 0, 0, .null), (.getfield 9, 3, 0, 0, .ref 1), (.iload_n 1, 1, 1, 0, .null), (.laload, 1, 160, 0, .null), (.lstore_n 2, 1, 2, 0, .null), (.iload_n 1, 1, 1, 0, .null), (.istore 4, 2, 4, 0, .null)] 20 (by decide +kernel) ?_
    show isK sh c 0 ∧ (isA sh (c + 1) 11 160 ∧ inb v1 160) ∧ Fx q_Co_sort 1 sh 20 [some (.ref c), some (.int v1), some (.long (hp.2 (c + 1) (ix v1))), none, some (.int v1)] [] hp none res
    refine ⟨hS.1, ⟨hS.2, g2⟩, ?_⟩
    have hl := t_Co_sort_l20 sh c hS hp v1 (hp.2 (c + 1) (ix v1)) res (hp, v1) _ hf hk
    have hl : Fx q_Co_sort 1 sh 20 [some (.ref c), some (.int v1), some (.long (hp.2 (c + 1) (ix v1))), none, some (.int v1)] [] hp none res := hl
    exact Fx.le hl (And.intro rfl (And.intro rfl (And.intro rfl (And.intro rfl trivial))))
set_option maxHeartbeats 4000000 in
set_option maxRecDepth 20000 in
theorem t_Co_sort (sh : Shp) (c : Nat) (hS : S_Co sh c) (hp : HP)  (res : HP) (hf : f_Co_sort c hp  = some res) : Ex 1 q_Co_sort sh [.ref c] hp none res := by
  refine Ex.of [some (.ref c), none, none, none, none] rfl (Nat.le_of_ble_eq_true rfl) (by decide +kernel) rfl ?_
  obtain ⟨t, hk⟩ : ∃ t, t = res := ⟨res, rfl⟩
  rw [← hk] at hf
  unfold f_Co_sort at hf
  refine Fx.run [(.iconst 1, 1, 0, 0, .int 1), (.istore_n 1, 1, 1, 0, .null)] 2 (by decide +kernel) ?_
  show Fx q_Co_sort 1 sh 2 [some (.ref c), some (.int 1), none, none, none] [] hp none res
  have hl := t_Co_sort_l2 sh c hS hp  res (hp, 1) _ hf hk
  have hl : Fx q_Co_sort 1 sh 2 [some (.ref c), some (.int 1), none, none, none] [] hp none res := hl
  exact Fx.le hl (And.intro rfl (And.intro rfl trivial))
set_option maxHeartbeats 4000000 in
set_option maxRecDepth 20000 in
theorem t_Co_at (sh : Shp) (c : Nat) (hS : S_Co sh c) (hp : HP) (v1 : Int32) (res : Int64) (hf : f_Co_at c hp v1 = some res) : Ex 1 q_Co_at sh [.ref c, .int v1] hp (some (.long res)) hp := by
  refine Ex.of [some (.ref c), some (.int v1)] rfl (Nat.le_of_ble_eq_true rfl) (by decide +kernel) rfl ?_
  obtain ⟨t, hk⟩ : ∃ t, t = res := ⟨res, rfl⟩
  rw [← hk] at hf
  unfold f_Co_at at hf
  refine Fx.run [(.iload_n 1, 1, 1, 0, .null)] 1 (by decide +kernel) ?_
  show Fx q_Co_at 1 sh 1 [some (.ref c), some (.int v1)] [.int v1] hp (some (.long res)) hp
  refine Fx.if_lt (20) 21 4 (by decide +kernel) (fun b1 => ?_) (fun b1 => ?_)
  · replace hf := ifp b1 hf
    refine Fx.run [(.lconst 0, 1, 0, 0, .long 0)] 22 (by decide +kernel) ?_
    show Fx q_Co_at 1 sh 22 [some (.ref c), some (.int v1)] [.long 0] hp (some (.long res)) hp
    obtain rfl := Option.some.inj hf
    have hk : 0 = res := hk
    subst hk
    exact Fx.lret (by decide +kernel) rfl
  · replace hf := ifn b1 hf
    refine Fx.run [(.iload_n 1, 1, 1, 0, .null), (.aload_n 0, 1, 0, 0, .null), (.getfield 15, 3, 0, 1, .null)] 9 (by decide +kernel) ?_
    show isK sh c 0 ∧ Fx q_Co_at 1 sh 9 [some (.ref c), some (.int v1)] [.int (hp.1 c 1), .int v1] hp (some (.long res)) hp
    refine ⟨hS.1, ?_⟩
    refine Fx.icmp_ge (12) 21 12 (by decide +kernel) (fun b2 => ?_) (fun b2 => ?_)
    · replace hf := ifp b2 hf
      refine Fx.run [(.lconst 0, 1, 0, 0, .long 0)] 22 (by decide +kernel) ?_
      show Fx q_Co_at 1 sh 22 [some (.ref c), some (.int v1)] [.long 0] hp (some (.long res)) hp
      obtain rfl := Option.some.inj hf
      have hk : 0 = res := hk
      subst hk
      exact Fx.lret (by decide +kernel) rfl
    · replace hf := ifn b2 hf
      replace hf := gd hf
      obtain ⟨g3, hf⟩ := hf
      refine Fx.run [(.aload_n 0, 1, 0, 0, .null), (.getfield 9, 3, 0, 0, .ref 1), (.iload_n 1, 1, 1, 0, .null), (.laload, 1, 160, 0, .null)] 18 (by decide +kernel) ?_
      show isK sh c 0 ∧ (isA sh (c + 1) 11 160 ∧ inb v1 160) ∧ Fx q_Co_at 1 sh 18 [some (.ref c), some (.int v1)] [.long (hp.2 (c + 1) (ix v1))] hp (some (.long res)) hp
      refine ⟨hS.1, ⟨hS.2, g3⟩, ?_⟩
      refine Fx.goto (4) 22 (by decide +kernel) ?_
      obtain rfl := Option.some.inj hf
      have hk : (hp.2 (c + 1) (ix v1)) = res := hk
      subst hk
      exact Fx.lret (by decide +kernel) rfl
set_option maxHeartbeats 4000000 in
set_option maxRecDepth 20000 in
theorem t_Cu_activeTogether (sh : Shp) (c : Nat) (hS : S_Cu sh c) (hp : HP)  (res : Int32) (hf : f_Cu_activeTogether c hp  = some res) : Ex 1 q_Cu_activeTogether sh [.ref c] hp (some (.int res)) hp := by
  refine Ex.of [some (.ref c)] rfl (Nat.le_of_ble_eq_true rfl) (by decide +kernel) rfl ?_
  obtain ⟨t, hk⟩ : ∃ t, t = res := ⟨res, rfl⟩
  rw [← hk] at hf
  unfold f_Cu_activeTogether at hf
  refine Fx.run [(.aload_n 0, 1, 0, 0, .null), (.getfield 18, 3, 1, 5, .ref 3), (.iconst 0, 1, 0, 0, .int 0), (.iaload, 1, 2, 0, .null), (.aload_n 0, 1, 0, 0, .null), (.getfield 18, 3, 1, 5, .ref 3), (.iconst 1, 1, 0, 0, .int 1), (.iaload, 1, 2, 0, .null), (.iadd, 1, 0, 0, .null)] 13 (by decide +kernel) ?_
  show isK sh c 1 ∧ (isA sh (c + 3) 10 2 ∧ inb 0 2) ∧ isK sh c 1 ∧ (isA sh (c + 3) 10 2 ∧ inb 1 2) ∧ Fx q_Cu_activeTogether 1 sh 13 [some (.ref c)] [.int ((hp.1 (c + 3) (ix 0)) + (hp.1 (c + 3) (ix 1)))] hp (some (.int res)) hp
  refine ⟨hS.1, ⟨hS.2.2.2.1, (by decide)⟩, hS.1, ⟨hS.2.2.2.1, (by decide)⟩, ?_⟩
  obtain rfl := Option.some.inj hf
  have hk : ((hp.1 (c + 3) (ix 0)) + (hp.1 (c + 3) (ix 1))) = res := hk
  subst hk
  exact Fx.iret (by decide +kernel) rfl
abbrev P_Cu_heads_4 (sh : Shp) (c : Nat) (hp : HP)  (res : Int32) : (Int32 × Int32) → Prop := fun s => Fx q_Cu_heads 1 sh 4 [some (.ref c), some (.int s.1), some (.int s.2)] [] hp (some (.int res)) hp
set_option maxHeartbeats 4000000 in
set_option maxRecDepth 20000 in
theorem t_Cu_heads_l4 (sh : Shp) (c : Nat) (hS : S_Cu sh c) (hp : HP)  (res : Int32) : ∀ (s : (Int32 × Int32)) (t : Int32), f_Cu_heads_l4 c hp  s = some t → (fun v => v = res) t → P_Cu_heads_4 sh c hp  res s := by
  refine loop_ind (P_Cu_heads_4 sh c hp  res) (fun v => v = res) ?_
  intro s t hf hk
  obtain ⟨v1, v2⟩ := s
  replace hf : f_Cu_heads_b4 c hp  v1 v2 = some t := hf
  show Fx q_Cu_heads 1 sh 4 [some (.ref c), some (.int v1), some (.int v2)] [] hp (some (.int res)) hp
  unfold f_Cu_heads_b4 at hf
  refine Fx.run [(.iload_n 2, 1, 2, 0, .null), (.bipush 8, 2, 0, 0, .int 8)] 7 (by decide +kernel) ?_
  show Fx q_Cu_heads 1 sh 7 [some (.ref c), some (.int v1), some (.int v2)] [.int 8, .int v2] hp (some (.int res)) hp
  refine Fx.icmp_ge (21) 28 10 (by decide +kernel) (fun b1 => ?_) (fun b1 => ?_)
  · replace hf := ifp b1 hf
    replace hf := mpd hf
    obtain ⟨t, hf, rfl⟩ := hf
    refine Fx.run [(.iload_n 1, 1, 1, 0, .null)] 29 (by decide +kernel) ?_
    show Fx q_Cu_heads 1 sh 29 [some (.ref c), some (.int v1), some (.int v2)] [.int v1] hp (some (.int res)) hp
    obtain rfl := Option.some.inj hf
    have hk : v1 = res := hk
    subst hk
    exact Fx.iret (by decide +kernel) rfl
  · replace hf := ifn b1 hf
    replace hf := gd hf
    obtain ⟨g2, hf⟩ := hf
    refine Fx.run [(.aload_n 0, 1, 0, 0, .null), (.getfield 21, 3, 1, 6, .ref 4), (.iload_n 2, 1, 2, 0, .null), (.iaload, 1, 8, 0, .null)] 16 (by decide +kernel) ?_
    show isK sh c 1 ∧ (isA sh (c + 4) 10 8 ∧ inb v2 8) ∧ Fx q_Cu_heads 1 sh 16 [some (.ref c), some (.int v1), some (.int v2)] [.int (hp.1 (c + 4) (ix v2))] hp (some (.int res)) hp
    refine ⟨hS.1, ⟨hS.2.2.2.2.1, g2⟩, ?_⟩
    refine Fx.if_le (6) 22 19 (by decide +kernel) (fun b3 => ?_) (fun b3 => ?_)
    · replace hf := ifp b3 hf
      refine Fx.run [(.iinc 2 1, 3, 2, 0, .int 1)] 25 (by decide +kernel) ?_
      show Fx q_Cu_heads 1 sh 25 [some (.ref c), some (.int v1), some (.int (v2 + 1))] [] hp (some (.int res)) hp
      refine Fx.goto (-21) 4 (by decide +kernel) ?_
      obtain rfl := Option.some.inj hf
      have hk : Fx q_Cu_heads 1 sh 4 [some (.ref c), some (.int v1), some (.int (v2 + 1))] [] hp (some (.int res)) hp := hk
      exact Fx.le hk (And.intro rfl (And.intro rfl (And.intro rfl trivial)))
    · replace hf := ifn b3 hf
      refine Fx.run [(.iinc 1 1, 3, 1, 0, .int 1), (.iinc 2 1, 3, 2, 0, .int 1)] 25 (by decide +kernel) ?_
      show Fx q_Cu_heads 1 sh 25 [some (.ref c), some (.int (v1 + 1)), some (.int (v2 + 1))] [] hp (some (.int res)) hp
      refine Fx.goto (-21) 4 (by decide +kernel) ?_
      obtain rfl := Option.some.inj hf
      have hk : Fx q_Cu_heads 1 sh 4 [some (.ref c), some (.int (v1 + 1)), some (.int (v2 + 1))] [] hp (some (.int res)) hp := hk
      exact Fx.le hk (And.intro rfl (And.intro rfl (And.intro rfl trivial)))
set_option maxHeartbeats 4000000 in
set_option maxRecDepth 20000 in
theorem t_Cu_heads (sh : Shp) (c : Nat) (hS : S_Cu sh c) (hp : HP)  (res : Int32) (hf : f_Cu_heads c hp  = some res) : Ex 1 q_Cu_heads sh [.ref c] hp (some (.int res)) hp := by
  refine Ex.of [some (.ref c), none, none] rfl (Nat.le_of_ble_eq_true rfl) (by decide +kernel) rfl ?_
  obtain ⟨t, hk⟩ : ∃ t, t = res := ⟨res, rfl⟩
  rw [← hk] at hf
  unfold f_Cu_heads at hf
  refine Fx.run [(.iconst 0, 1, 0, 0, .int 0), (.istore_n 1, 1, 1, 0, .null), (.iconst 0, 1, 0, 0, .int 0), (.istore_n 2, 1, 2, 0, .null)] 4 (by decide +kernel) ?_
  show Fx q_Cu_heads 1 sh 4 [some (.ref c), some (.int 0), some (.int 0)] [] hp (some (.int res)) hp
  have hl := t_Cu_heads_l4 sh c hS hp  res (0, 0) _ hf hk
  have hl : Fx q_Cu_heads 1 sh 4 [some (.ref c), some (.int 0), some (.int 0)] [] hp (some (.int res)) hp := hl
  exact Fx.le hl (And.intro rfl (And.intro rfl (And.intro rfl trivial)))
set_option maxHeartbeats 4000000 in
set_option maxRecDepth 20000 in
theorem t_Cu_held (sh : Shp) (c : Nat) (hS : S_Cu sh c) (hp : HP)  (res : Int32) (hf : f_Cu_held c hp  = some res) : Ex 2 q_Cu_held sh [.ref c] hp (some (.int res)) hp := by
  refine Ex.of [some (.ref c)] rfl (Nat.le_of_ble_eq_true rfl) (by decide +kernel) rfl ?_
  obtain ⟨t, hk⟩ : ∃ t, t = res := ⟨res, rfl⟩
  rw [← hk] at hf
  unfold f_Cu_held at hf
  refine Fx.run [(.aload_n 0, 1, 0, 0, .null)] 1 (by decide +kernel) ?_
  show Fx q_Cu_held 2 sh 1 [some (.ref c)] [.ref c] hp (some (.int res)) hp
  replace hf := bnd hf
  obtain ⟨r1, hr1, hf⟩ := hf
  refine Fx.callV (rr := (some (.int r1))) (hp1 := hp) [] [] lk_1_123 (by decide +kernel) (t_Cu_activeTogether sh c (hS) hp r1 hr1) ⟨Nat.le_of_ble_eq_true rfl, Nat.le_of_ble_eq_true rfl⟩ (hS).1 (by decide) rfl (Nat.le_of_ble_eq_true rfl) ?_
  show Fx q_Cu_held 2 sh 4 [some (.ref c)] [.int r1] hp (some (.int res)) hp
  refine Fx.run [(.aload_n 0, 1, 0, 0, .null)] 5 (by decide +kernel) ?_
  show Fx q_Cu_held 2 sh 5 [some (.ref c)] [.ref c, .int r1] hp (some (.int res)) hp
  replace hf := bnd hf
  obtain ⟨r2, hr2, hf⟩ := hf
  refine Fx.callV (rr := (some (.int r2))) (hp1 := hp) [] [.int r1] lk_1_140 (by decide +kernel) (t_Cu_heads sh c (hS) hp r2 hr2) ⟨Nat.le_of_ble_eq_true rfl, Nat.le_of_ble_eq_true rfl⟩ (hS).1 (by decide) rfl (Nat.le_of_ble_eq_true rfl) ?_
  show Fx q_Cu_held 2 sh 8 [some (.ref c)] [.int r2, .int r1] hp (some (.int res)) hp
  refine Fx.run [(.iadd, 1, 0, 0, .null)] 9 (by decide +kernel) ?_
  show Fx q_Cu_held 2 sh 9 [some (.ref c)] [.int (r1 + r2)] hp (some (.int res)) hp
  obtain rfl := Option.some.inj hf
  have hk : (r1 + r2) = res := hk
  subst hk
  exact Fx.iret (by decide +kernel) rfl
abbrev P_Cu_begin_6 (sh : Shp) (c : Nat) (v1 : Nat) (v2 : Nat) (res : HP) : (HP × Int32) → Prop := fun s => Fx q_Cu_begin 3 sh 6 [some (.ref c), some (.ref v1), some (.ref v2), some (.int s.2), none, none] [] s.1 none res
abbrev P_Cu_begin_141 (sh : Shp) (c : Nat) (v2 : Nat) (res : HP) : (HP × Int32) → Prop := fun s => Fx q_Cu_begin 3 sh 141 [some (.ref c), none, some (.ref v2), some (.int s.2), none, none] [] s.1 none res
set_option maxHeartbeats 4000000 in
set_option maxRecDepth 20000 in
theorem t_Cu_begin_j185 (sh : Shp) (c : Nat) (hS : S_Cu sh c) (hp : HP)  (s0 : Int32) (s1 : Nat) (hs1 : S_Cu sh s1) (res : HP) (t : HP) (hf : f_Cu_begin_j185 c hp  s0 s1 = some t) (hk : (fun v => v = res) t) : Fx q_Cu_begin 3 sh 185 [some (.ref c), none, none, none, none, none] [.int s0, .ref s1] hp none res := by
  unfold f_Cu_begin_j185 at hf
  replace hf := gd hf
  obtain ⟨g8, hf⟩ := hf
  refine Fx.run [(.putfield 40, 3, 1, 3, .int 1), (.aload_n 0, 1, 0, 0, .null), (.iconst 0, 1, 0, 0, .int 0), (.putfield 44, 3, 1, 8, .null), (.aload_n 0, 1, 0, 0, .null), (.aload_n 0, 1, 0, 0, .null)] 195 (by decide +kernel) ?_
  show isK sh s1 1 ∧ (s0 = 0 ∨ s0 = 1) ∧ isK sh c 1 ∧ Fx q_Cu_begin 3 sh 195 [some (.ref c), none, none, none, none, none] [.ref c, .ref c] (upI (upI hp s1 3 s0) c 8 0) none res
  refine ⟨hs1.1, g8, hS.1, ?_⟩
  replace hf := bnd hf
  obtain ⟨r9, hr9, hf⟩ := hf
  refine Fx.callV (rr := (some (.int r9))) (hp1 := (upI (upI hp s1 3 s0) c 8 0)) [] [.ref c] lk_1_107 (by decide +kernel) (t_Cu_held sh c (hS) (upI (upI hp s1 3 s0) c 8 0) r9 hr9) ⟨Nat.le_of_ble_eq_true rfl, Nat.le_of_ble_eq_true rfl⟩ (hS).1 (by decide) rfl (Nat.le_of_ble_eq_true rfl) ?_
  show Fx q_Cu_begin 3 sh 198 [some (.ref c), none, none, none, none, none] [.int r9, .ref c] (upI (upI hp s1 3 s0) c 8 0) none res
  refine Fx.run [(.putfield 47, 3, 1, 9, .null), (.aload_n 0, 1, 0, 0, .null), (.iconst 0, 1, 0, 0, .int 0), (.putfield 50, 3, 1, 10, .null), (.aload_n 0, 1, 0, 0, .null), (.iconst 0, 1, 0, 0, .int 0), (.putfield 53, 3, 1, 11, .null), (.aload_n 0, 1, 0, 0, .null), (.iconst 0, 1, 0, 0, .int 0), (.putfield 56, 3, 1, 12, .null)] 216 (by decide +kernel) ?_
  show isK sh c 1 ∧ isK sh c 1 ∧ isK sh c 1 ∧ isK sh c 1 ∧ Fx q_Cu_begin 3 sh 216 [some (.ref c), none, none, none, none, none] [] (upI (upI (upI (upI (upI (upI hp s1 3 s0) c 8 0) c 9 r9) c 10 0) c 11 0) c 12 0) none res
  refine ⟨hS.1, hS.1, hS.1, hS.1, ?_⟩
  obtain rfl := Option.some.inj hf
  have hk : (upI (upI (upI (upI (upI (upI hp s1 3 s0) c 8 0) c 9 r9) c 10 0) c 11 0) c 12 0) = res := hk
  subst hk
  exact Fx.vret (by decide +kernel) rfl
set_option maxHeartbeats 4000000 in
set_option maxRecDepth 20000 in
theorem t_Cu_begin_l141 (sh : Shp) (c : Nat) (hS : S_Cu sh c) (hp : HP) (v2 : Nat) (hv2 : S_Co sh v2) (res : HP) : ∀ (s : (HP × Int32)) (t : HP), f_Cu_begin_l141 c hp v2 s = some t → (fun v => v = res) t → P_Cu_begin_141 sh c v2 res s := by
  refine loop_ind (P_Cu_begin_141 sh c v2 res) (fun v => v = res) ?_
  intro s t hf hk
  obtain ⟨hp, v3⟩ := s
  replace hf : f_Cu_begin_b141 c hp v2 v3 = some t := hf
  show Fx q_Cu_begin 3 sh 141 [some (.ref c), none, some (.ref v2), some (.int v3), none, none] [] hp none res
  unfold f_Cu_begin_b141 at hf
  refine Fx.run [(.iload_n 3, 1, 3, 0, .null), (.aload_n 0, 1, 0, 0, .null), (.getfield 33, 3, 1, 1, .null)] 146 (by decide +kernel) ?_
  show isK sh c 1 ∧ Fx q_Cu_begin 3 sh 146 [some (.ref c), none, some (.ref v2), some (.int v3), none, none] [.int (hp.1 c 1), .int v3] hp none res
  refine ⟨hS.1, ?_⟩
  refine Fx.icmp_ge (21) 167 149 (by decide +kernel) (fun b6 => ?_) (fun b6 => ?_)
  · replace hf := ifp b6 hf
    replace hf := mpd hf
    obtain ⟨t, hf, rfl⟩ := hf
    refine Fx.run [(.aload_n 0, 1, 0, 0, .null), (.iconst 0, 1, 0, 0, .int 0), (.putfield 37, 3, 1, 2, .null), (.aload_n 0, 1, 0, 0, .null), (.aload_n 0, 1, 0, 0, .null), (.getfield 33, 3, 1, 1, .null)] 177 (by decide +kernel) ?_
    show isK sh c 1 ∧ isK sh c 1 ∧ Fx q_Cu_begin 3 sh 177 [some (.ref c), none, some (.ref v2), some (.int v3), none, none] [.int ((upI hp c 2 0).1 c 1), .ref c] (upI hp c 2 0) none res
    refine ⟨hS.1, hS.1, ?_⟩
    refine Fx.if_le (7) 184 180 (by decide +kernel) (fun b7 => ?_) (fun b7 => ?_)
    · replace hf := ifp b7 hf
      refine Fx.run [(.iconst 0, 1, 0, 0, .int 0)] 185 (by decide +kernel) ?_
      show Fx q_Cu_begin 3 sh 185 [some (.ref c), none, some (.ref v2), some (.int v3), none, none] [.int 0, .ref c] (upI hp c 2 0) none res
      have hl := t_Cu_begin_j185 sh c hS (upI hp c 2 0)  0 c (hS) res _ hf hk
      exact Fx.le hl (And.intro rfl trivial)
    · replace hf := ifn b7 hf
      refine Fx.run [(.iconst 1, 1, 0, 0, .int 1)] 181 (by decide +kernel) ?_
      show Fx q_Cu_begin 3 sh 181 [some (.ref c), none, some (.ref v2), some (.int v3), none, none] [.int 1, .ref c] (upI hp c 2 0) none res
      refine Fx.goto (4) 185 (by decide +kernel) ?_
      have hl := t_Cu_begin_j185 sh c hS (upI hp c 2 0)  1 c (hS) res _ hf hk
      exact Fx.le hl (And.intro rfl trivial)
  · replace hf := ifn b6 hf
    refine Fx.run [(.aload_n 0, 1, 0, 0, .null), (.getfield 9, 3, 1, 0, .ref 1), (.iload_n 3, 1, 3, 0, .null), (.aload_n 2, 1, 2, 0, .null), (.iload_n 3, 1, 3, 0, .null)] 156 (by decide +kernel) ?_
    show isK sh c 1 ∧ Fx q_Cu_begin 3 sh 156 [some (.ref c), none, some (.ref v2), some (.int v3), none, none] [.int v3, .ref v2, .int v3, .ref (c + 1)] hp none res
    refine ⟨hS.1, ?_⟩
    replace hf := bnd hf
    obtain ⟨r10, hr10, hf⟩ := hf
    refine Fx.callV (rr := (some (.long r10))) (hp1 := hp) [.int v3] [.int v3, .ref (c + 1)] lk_1_103 (by decide +kernel) (t_Co_at sh v2 (hv2) hp v3 r10 hr10) ⟨Nat.le_of_ble_eq_true rfl, Nat.le_of_ble_eq_true rfl⟩ (hv2).1 (by decide) rfl (Nat.le_of_ble_eq_true rfl) ?_
    show Fx q_Cu_begin 3 sh 159 [some (.ref c), none, some (.ref v2), some (.int v3), none, none] [.long r10, .int v3, .ref (c + 1)] hp none res
    replace hf := gd hf
    obtain ⟨g11, hf⟩ := hf
    refine Fx.run [(.l2i, 1, 0, 0, .null), (.iastore, 1, 160, 0, .null), (.iinc 3 1, 3, 3, 0, .int 1)] 164 (by decide +kernel) ?_
    show (isA sh (c + 1) 10 160 ∧ inb v3 160) ∧ Fx q_Cu_begin 3 sh 164 [some (.ref c), none, some (.ref v2), some (.int (v3 + 1)), none, none] [] (upI hp (c + 1) (ix v3) (Int64.toInt32 r10)) none res
    refine ⟨⟨hS.2.1, g11⟩, ?_⟩
    refine Fx.goto (-23) 141 (by decide +kernel) ?_
    obtain rfl := Option.some.inj hf
    have hk : Fx q_Cu_begin 3 sh 141 [some (.ref c), none, some (.ref v2), some (.int (v3 + 1)), none, none] [] (upI hp (c + 1) (ix v3) (Int64.toInt32 r10)) none res := hk
    exact Fx.le hk (And.intro rfl (And.intro rfl (And.intro rfl trivial)))
abbrev P_Cu_begin_28 (sh : Shp) (c : Nat) (v1 : Nat) (v2 : Nat) (v3 : Int32) (v4 : Nat) (res : HP) : (HP × Int32) → Prop := fun s => Fx q_Cu_begin 3 sh 28 [some (.ref c), some (.ref v1), some (.ref v2), some (.int v3), some (.ref v4), some (.int s.2)] [] s.1 none res
abbrev P_Cu_begin_61 (sh : Shp) (c : Nat) (v1 : Nat) (v2 : Nat) (v3 : Int32) (v4 : Nat) (res : HP) : (HP × Int32) → Prop := fun s => Fx q_Cu_begin 3 sh 61 [some (.ref c), some (.ref v1), some (.ref v2), some (.int v3), some (.ref v4), some (.int s.2)] [] s.1 none res
set_option maxHeartbeats 4000000 in
set_option maxRecDepth 20000 in
theorem t_Cu_begin_l61 (sh : Shp) (c : Nat) (hS : S_Cu sh c) (hp : HP) (v1 : Nat) (hv1 : S_St sh v1) (v2 : Nat) (hv2 : S_Co sh v2) (v3 : Int32) (v4 : Nat) (hv4 : S_Ro sh v4) (res : HP) : ∀ (s : (HP × Int32)) (t : ((HP × Int32) ⊕ HP)), f_Cu_begin_l61 c hp v1 v2 v3 v4 s = some t → (Kel (P_Cu_begin_6 sh c v1 v2 res) (fun v => v = res)) t → P_Cu_begin_61 sh c v1 v2 v3 v4 res s := by
  refine loop_ind (P_Cu_begin_61 sh c v1 v2 v3 v4 res) (Kel (P_Cu_begin_6 sh c v1 v2 res) (fun v => v = res)) ?_
  intro s t hf hk
  obtain ⟨hp, v5⟩ := s
  replace hf : f_Cu_begin_b61 c hp v1 v2 v3 v4 v5 = some t := hf
  show Fx q_Cu_begin 3 sh 61 [some (.ref c), some (.ref v1), some (.ref v2), some (.int v3), some (.ref v4), some (.int v5)] [] hp none res
  unfold f_Cu_begin_b61 at hf
  refine Fx.run [(.iload 5, 2, 5, 0, .null), (.aload 4, 2, 4, 0, .null), (.getfield 76, 3, 4, 5, .null)] 68 (by decide +kernel) ?_
  show isK sh v4 4 ∧ Fx q_Cu_begin 3 sh 68 [some (.ref c), some (.ref v1), some (.ref v2), some (.int v3), some (.ref v4), some (.int v5)] [.int (hp.1 v4 5), .int v5] hp none res
  refine ⟨hv4.1, ?_⟩
  refine Fx.icmp_ge (47) 115 71 (by decide +kernel) (fun b15 => ?_) (fun b15 => ?_)
  · replace hf := ifp b15 hf
    replace hf := mpd hf
    obtain ⟨t, hf, rfl⟩ := hf
    refine Fx.run [(.iinc 3 1, 3, 3, 0, .int 1)] 118 (by decide +kernel) ?_
    show Fx q_Cu_begin 3 sh 118 [some (.ref c), some (.ref v1), some (.ref v2), some (.int (v3 + 1)), some (.ref v4), some (.int v5)] [] hp none res
    refine Fx.goto (-112) 6 (by decide +kernel) ?_
    obtain rfl := Option.some.inj hf
    have hk : Fx q_Cu_begin 3 sh 6 [some (.ref c), some (.ref v1), some (.ref v2), some (.int (v3 + 1)), none, none] [] hp none res := hk
    exact Fx.le hk (And.intro rfl (And.intro rfl (And.intro rfl (And.intro rfl trivial))))
  · replace hf := ifn b15 hf
    refine Fx.run [(.aload_n 2, 1, 2, 0, .null), (.aload 4, 2, 4, 0, .null), (.iload 5, 2, 5, 0, .null)] 76 (by decide +kernel) ?_
    show Fx q_Cu_begin 3 sh 76 [some (.ref c), some (.ref v1), some (.ref v2), some (.int v3), some (.ref v4), some (.int v5)] [.int v5, .ref v4, .ref v2] hp none res
    replace hf := bnd hf
    obtain ⟨r16, hr16, hf⟩ := hf
    refine Fx.callV (rr := (some (.int r16))) (hp1 := hp) [.int v5] [.ref v2] lk_1_79 (by decide +kernel) (t_Ro_startPlace sh v4 (hv4) hp v5 r16 hr16) ⟨Nat.le_of_ble_eq_true rfl, Nat.le_of_ble_eq_true rfl⟩ (hv4).1 (by decide) rfl (Nat.le_of_ble_eq_true rfl) ?_
    show Fx q_Cu_begin 3 sh 79 [some (.ref c), some (.ref v1), some (.ref v2), some (.int v3), some (.ref v4), some (.int v5)] [.int r16, .ref v2] hp none res
    refine Fx.run [(.iconst 1, 1, 0, 0, .int 1), (.iload_n 3, 1, 3, 0, .null), (.iload 5, 2, 5, 0, .null)] 83 (by decide +kernel) ?_
    show Fx q_Cu_begin 3 sh 83 [some (.ref c), some (.ref v1), some (.ref v2), some (.int v3), some (.ref v4), some (.int v5)] [.int v5, .int v3, .int 1, .int r16, .ref v2] hp none res
    replace hf := bnd hf
    obtain ⟨r17, hr17, hf⟩ := hf
    refine Fx.callS (rr := (some (.int r17))) (hp1 := hp) [.int r16, .int 1, .int v3, .int v5] [.ref v2] lk_1_82 (by decide +kernel) (t_Cu_eventCode sh hp r16 1 v3 v5 r17 hr17) ⟨Nat.le_of_ble_eq_true rfl, Nat.le_of_ble_eq_true rfl⟩ rfl (Nat.le_of_ble_eq_true rfl) ?_
    show Fx q_Cu_begin 3 sh 86 [some (.ref c), some (.ref v1), some (.ref v2), some (.int v3), some (.ref v4), some (.int v5)] [.int r17, .ref v2] hp none res
    refine Fx.run [(.i2l, 1, 0, 0, .null)] 87 (by decide +kernel) ?_
    show Fx q_Cu_begin 3 sh 87 [some (.ref c), some (.ref v1), some (.ref v2), some (.int v3), some (.ref v4), some (.int v5)] [.long (Int32.toInt64 r17), .ref v2] hp none res
    replace hf := bnd hf
    obtain ⟨h19, hr18, hf⟩ := hf
    refine Fx.callV (rr := none) (hp1 := h19) [.long (Int32.toInt64 r17)] [] lk_1_86 (by decide +kernel) (t_Co_put sh v2 (hv2) hp (Int32.toInt64 r17) h19 hr18) ⟨Nat.le_of_ble_eq_true rfl, Nat.le_of_ble_eq_true rfl⟩ (hv2).1 (by decide) rfl (Nat.le_of_ble_eq_true rfl) ?_
    show Fx q_Cu_begin 3 sh 90 [some (.ref c), some (.ref v1), some (.ref v2), some (.int v3), some (.ref v4), some (.int v5)] [] h19 none res
    refine Fx.run [(.aload_n 2, 1, 2, 0, .null), (.aload 4, 2, 4, 0, .null), (.iload 5, 2, 5, 0, .null)] 95 (by decide +kernel) ?_
    show Fx q_Cu_begin 3 sh 95 [some (.ref c), some (.ref v1), some (.ref v2), some (.int v3), some (.ref v4), some (.int v5)] [.int v5, .ref v4, .ref v2] h19 none res
    replace hf := bnd hf
    obtain ⟨r20, hr20, hf⟩ := hf
    refine Fx.callV (rr := (some (.int r20))) (hp1 := h19) [.int v5] [.ref v2] lk_1_90 (by decide +kernel) (t_Ro_endPlace sh v4 (hv4) h19 v5 r20 hr20) ⟨Nat.le_of_ble_eq_true rfl, Nat.le_of_ble_eq_true rfl⟩ (hv4).1 (by decide) rfl (Nat.le_of_ble_eq_true rfl) ?_
    show Fx q_Cu_begin 3 sh 98 [some (.ref c), some (.ref v1), some (.ref v2), some (.int v3), some (.ref v4), some (.int v5)] [.int r20, .ref v2] h19 none res
    refine Fx.run [(.iconst 0, 1, 0, 0, .int 0), (.iload_n 3, 1, 3, 0, .null), (.iload 5, 2, 5, 0, .null)] 102 (by decide +kernel) ?_
    show Fx q_Cu_begin 3 sh 102 [some (.ref c), some (.ref v1), some (.ref v2), some (.int v3), some (.ref v4), some (.int v5)] [.int v5, .int v3, .int 0, .int r20, .ref v2] h19 none res
    replace hf := bnd hf
    obtain ⟨r21, hr21, hf⟩ := hf
    refine Fx.callS (rr := (some (.int r21))) (hp1 := h19) [.int r20, .int 0, .int v3, .int v5] [.ref v2] lk_1_82 (by decide +kernel) (t_Cu_eventCode sh h19 r20 0 v3 v5 r21 hr21) ⟨Nat.le_of_ble_eq_true rfl, Nat.le_of_ble_eq_true rfl⟩ rfl (Nat.le_of_ble_eq_true rfl) ?_
    show Fx q_Cu_begin 3 sh 105 [some (.ref c), some (.ref v1), some (.ref v2), some (.int v3), some (.ref v4), some (.int v5)] [.int r21, .ref v2] h19 none res
    refine Fx.run [(.i2l, 1, 0, 0, .null)] 106 (by decide +kernel) ?_
    show Fx q_Cu_begin 3 sh 106 [some (.ref c), some (.ref v1), some (.ref v2), some (.int v3), some (.ref v4), some (.int v5)] [.long (Int32.toInt64 r21), .ref v2] h19 none res
    replace hf := bnd hf
    obtain ⟨h23, hr22, hf⟩ := hf
    refine Fx.callV (rr := none) (hp1 := h23) [.long (Int32.toInt64 r21)] [] lk_1_86 (by decide +kernel) (t_Co_put sh v2 (hv2) h19 (Int32.toInt64 r21) h23 hr22) ⟨Nat.le_of_ble_eq_true rfl, Nat.le_of_ble_eq_true rfl⟩ (hv2).1 (by decide) rfl (Nat.le_of_ble_eq_true rfl) ?_
    show Fx q_Cu_begin 3 sh 109 [some (.ref c), some (.ref v1), some (.ref v2), some (.int v3), some (.ref v4), some (.int v5)] [] h23 none res
    refine Fx.run [(.iinc 5 1, 3, 5, 0, .int 1)] 112 (by decide +kernel) ?_
    show Fx q_Cu_begin 3 sh 112 [some (.ref c), some (.ref v1), some (.ref v2), some (.int v3), some (.ref v4), some (.int (v5 + 1))] [] h23 none res
    refine Fx.goto (-51) 61 (by decide +kernel) ?_
    obtain rfl := Option.some.inj hf
    have hk : Fx q_Cu_begin 3 sh 61 [some (.ref c), some (.ref v1), some (.ref v2), some (.int v3), some (.ref v4), some (.int (v5 + 1))] [] h23 none res := hk
    exact Fx.le hk (And.intro rfl (And.intro rfl (And.intro rfl (And.intro rfl (And.intro rfl (And.intro rfl trivial))))))
set_option maxHeartbeats 4000000 in
set_option maxRecDepth 20000 in
theorem t_Cu_begin_l28 (sh : Shp) (c : Nat) (hS : S_Cu sh c) (hp : HP) (v1 : Nat) (hv1 : S_St sh v1) (v2 : Nat) (hv2 : S_Co sh v2) (v3 : Int32) (v4 : Nat) (hv4 : S_Ro sh v4) (res : HP) : ∀ (s : (HP × Int32)) (t : ((HP × Int32) ⊕ HP)), f_Cu_begin_l28 c hp v1 v2 v3 v4 s = some t → (Kel (P_Cu_begin_6 sh c v1 v2 res) (fun v => v = res)) t → P_Cu_begin_28 sh c v1 v2 v3 v4 res s := by
  refine loop_ind (P_Cu_begin_28 sh c v1 v2 v3 v4 res) (Kel (P_Cu_begin_6 sh c v1 v2 res) (fun v => v = res)) ?_
  intro s t hf hk
  obtain ⟨hp, v5⟩ := s
  replace hf : f_Cu_begin_b28 c hp v1 v2 v3 v4 v5 = some t := hf
  show Fx q_Cu_begin 3 sh 28 [some (.ref c), some (.ref v1), some (.ref v2), some (.int v3), some (.ref v4), some (.int v5)] [] hp none res
  unfold f_Cu_begin_b28 at hf
  refine Fx.run [(.iload 5, 2, 5, 0, .null), (.iconst 4, 1, 0, 0, .int 4)] 31 (by decide +kernel) ?_
  show Fx q_Cu_begin 3 sh 31 [some (.ref c), some (.ref v1), some (.ref v2), some (.int v3), some (.ref v4), some (.int v5)] [.int 4, .int v5] hp none res
  refine Fx.icmp_ge (27) 58 34 (by decide +kernel) (fun b14 => ?_) (fun b14 => ?_)
  · replace hf := ifp b14 hf
    replace hf := mpd hf
    obtain ⟨t, hf, rfl⟩ := hf
    refine Fx.run [(.iconst 0, 1, 0, 0, .int 0), (.istore 5, 2, 5, 0, .null)] 61 (by decide +kernel) ?_
    show Fx q_Cu_begin 3 sh 61 [some (.ref c), some (.ref v1), some (.ref v2), some (.int v3), some (.ref v4), some (.int 0)] [] hp none res
    have hl := t_Cu_begin_l61 sh c hS hp v1 (hv1) v2 (hv2) v3 v4 (hv4) res (hp, 0) _ hf hk
    have hl : Fx q_Cu_begin 3 sh 61 [some (.ref c), some (.ref v1), some (.ref v2), some (.int v3), some (.ref v4), some (.int 0)] [] hp none res := hl
    exact Fx.le hl (And.intro rfl (And.intro rfl (And.intro rfl (And.intro rfl (And.intro rfl (And.intro rfl trivial))))))
  · replace hf := ifn b14 hf
    refine Fx.run [(.aload_n 0, 1, 0, 0, .null), (.getfield 21, 3, 1, 6, .ref 4), (.iload_n 3, 1, 3, 0, .null), (.iconst 4, 1, 0, 0, .int 4), (.imul, 1, 0, 0, .null), (.iload 5, 2, 5, 0, .null), (.iadd, 1, 0, 0, .null), (.aload 4, 2, 4, 0, .null), (.iload 5, 2, 5, 0, .null)] 48 (by decide +kernel) ?_
    show isK sh c 1 ∧ Fx q_Cu_begin 3 sh 48 [some (.ref c), some (.ref v1), some (.ref v2), some (.int v3), some (.ref v4), some (.int v5)] [.int v5, .ref v4, .int ((v3 * 4) + v5), .ref (c + 4)] hp none res
    refine ⟨hS.1, ?_⟩
    replace hf := bnd hf
    obtain ⟨r24, hr24, hf⟩ := hf
    refine Fx.callV (rr := (some (.int r24))) (hp1 := hp) [.int v5] [.int ((v3 * 4) + v5), .ref (c + 4)] lk_1_70 (by decide +kernel) (t_Ro_countInRun sh v4 (hv4) hp v5 r24 hr24) ⟨Nat.le_of_ble_eq_true rfl, Nat.le_of_ble_eq_true rfl⟩ (hv4).1 (by decide) rfl (Nat.le_of_ble_eq_true rfl) ?_
    show Fx q_Cu_begin 3 sh 51 [some (.ref c), some (.ref v1), some (.ref v2), some (.int v3), some (.ref v4), some (.int v5)] [.int r24, .int ((v3 * 4) + v5), .ref (c + 4)] hp none res
    replace hf := gd hf
    obtain ⟨g25, hf⟩ := hf
    refine Fx.run [(.iastore, 1, 8, 0, .null), (.iinc 5 1, 3, 5, 0, .int 1)] 55 (by decide +kernel) ?_
    show (isA sh (c + 4) 10 8 ∧ inb ((v3 * 4) + v5) 8) ∧ Fx q_Cu_begin 3 sh 55 [some (.ref c), some (.ref v1), some (.ref v2), some (.int v3), some (.ref v4), some (.int (v5 + 1))] [] (upI hp (c + 4) (ix ((v3 * 4) + v5)) r24) none res
    refine ⟨⟨hS.2.2.2.2.1, g25⟩, ?_⟩
    refine Fx.goto (-27) 28 (by decide +kernel) ?_
    obtain rfl := Option.some.inj hf
    have hk : Fx q_Cu_begin 3 sh 28 [some (.ref c), some (.ref v1), some (.ref v2), some (.int v3), some (.ref v4), some (.int (v5 + 1))] [] (upI hp (c + 4) (ix ((v3 * 4) + v5)) r24) none res := hk
    exact Fx.le hk (And.intro rfl (And.intro rfl (And.intro rfl (And.intro rfl (And.intro rfl (And.intro rfl trivial))))))
set_option maxHeartbeats 4000000 in
set_option maxRecDepth 20000 in
theorem t_Cu_begin_l6 (sh : Shp) (c : Nat) (hS : S_Cu sh c) (hp : HP) (v1 : Nat) (hv1 : S_St sh v1) (v2 : Nat) (hv2 : S_Co sh v2) (res : HP) : ∀ (s : (HP × Int32)) (t : HP), f_Cu_begin_l6 c hp v1 v2 s = some t → (fun v => v = res) t → P_Cu_begin_6 sh c v1 v2 res s := by
  refine loop_ind (P_Cu_begin_6 sh c v1 v2 res) (fun v => v = res) ?_
  intro s t hf hk
  obtain ⟨hp, v3⟩ := s
  replace hf : f_Cu_begin_b6 c hp v1 v2 v3 = some t := hf
  show Fx q_Cu_begin 3 sh 6 [some (.ref c), some (.ref v1), some (.ref v2), some (.int v3), none, none] [] hp none res
  unfold f_Cu_begin_b6 at hf
  refine Fx.run [(.iload_n 3, 1, 3, 0, .null), (.iconst 2, 1, 0, 0, .int 2)] 8 (by decide +kernel) ?_
  show Fx q_Cu_begin 3 sh 8 [some (.ref c), some (.ref v1), some (.ref v2), some (.int v3), none, none] [.int 2, .int v3] hp none res
  refine Fx.icmp_ge (113) 121 11 (by decide +kernel) (fun b3 => ?_) (fun b3 => ?_)
  · replace hf := ifp b3 hf
    replace hf := mpd hf
    obtain ⟨t, hf, rfl⟩ := hf
    refine Fx.run [(.aload_n 2, 1, 2, 0, .null)] 122 (by decide +kernel) ?_
    show Fx q_Cu_begin 3 sh 122 [some (.ref c), some (.ref v1), some (.ref v2), some (.int v3), none, none] [.ref v2] hp none res
    replace hf := bnd hf
    obtain ⟨h5, hr4, hf⟩ := hf
    refine Fx.callV (rr := none) (hp1 := h5) [] [] lk_1_93 (by decide +kernel) (t_Co_sort sh v2 (hv2) hp h5 hr4) ⟨Nat.le_of_ble_eq_true rfl, Nat.le_of_ble_eq_true rfl⟩ (hv2).1 (by decide) rfl (Nat.le_of_ble_eq_true rfl) ?_
    show Fx q_Cu_begin 3 sh 125 [some (.ref c), some (.ref v1), some (.ref v2), some (.int v3), none, none] [] h5 none res
    refine Fx.run [(.aload_n 0, 1, 0, 0, .null), (.aload_n 2, 1, 2, 0, .null), (.getfield 96, 3, 0, 1, .null), (.sipush 160, 3, 0, 0, .int 160)] 133 (by decide +kernel) ?_
    show isK sh v2 0 ∧ Fx q_Cu_begin 3 sh 133 [some (.ref c), some (.ref v1), some (.ref v2), some (.int v3), none, none] [.int 160, .int (h5.1 v2 1), .ref c] h5 none res
    refine ⟨hv2.1, ?_⟩
    refine Fx.mmin lk_1_97 (by decide +kernel) (by decide) (Nat.le_of_ble_eq_true rfl) ?_
    show Fx q_Cu_begin 3 sh 136 [some (.ref c), some (.ref v1), some (.ref v2), some (.int v3), none, none] [.int (if 160 < (h5.1 v2 1) then 160 else (h5.1 v2 1)), .ref c] h5 none res
    refine Fx.run [(.putfield 33, 3, 1, 1, .null), (.iconst 0, 1, 0, 0, .int 0), (.istore_n 3, 1, 3, 0, .null)] 141 (by decide +kernel) ?_
    show isK sh c 1 ∧ Fx q_Cu_begin 3 sh 141 [some (.ref c), some (.ref v1), some (.ref v2), some (.int 0), none, none] [] (upI h5 c 1 (if 160 < (h5.1 v2 1) then 160 else (h5.1 v2 1))) none res
    refine ⟨hS.1, ?_⟩
    have hl := t_Cu_begin_l141 sh c hS (upI h5 c 1 (if 160 < (h5.1 v2 1) then 160 else (h5.1 v2 1))) v2 (hv2) res ((upI h5 c 1 (if 160 < (h5.1 v2 1) then 160 else (h5.1 v2 1))), 0) _ hf hk
    have hl : Fx q_Cu_begin 3 sh 141 [some (.ref c), none, some (.ref v2), some (.int 0), none, none] [] (upI h5 c 1 (if 160 < (h5.1 v2 1) then 160 else (h5.1 v2 1))) none res := hl
    exact Fx.le hl (And.intro rfl (And.intro rfl (And.intro rfl trivial)))
  · replace hf := ifn b3 hf
    refine Fx.run [(.aload_n 1, 1, 1, 0, .null), (.iload_n 3, 1, 3, 0, .null)] 13 (by decide +kernel) ?_
    show Fx q_Cu_begin 3 sh 13 [some (.ref c), some (.ref v1), some (.ref v2), some (.int v3), none, none] [.int v3, .ref v1] hp none res
    replace hf := bnd hf
    obtain ⟨r12, hr12, hf⟩ := hf
    refine Fx.callV (rr := (some (.ref r12))) (hp1 := hp) [.int v3] [] lk_1_64 (by decide +kernel) (t_St_rowsOf sh v1 (hv1) hp v3 r12 hr12) ⟨Nat.le_of_ble_eq_true rfl, Nat.le_of_ble_eq_true rfl⟩ (hv1).1 (by decide) rfl (Nat.le_of_ble_eq_true rfl) ?_
    show Fx q_Cu_begin 3 sh 16 [some (.ref c), some (.ref v1), some (.ref v2), some (.int v3), none, none] [.ref r12] hp none res
    replace hf := gd hf
    obtain ⟨g13, hf⟩ := hf
    refine Fx.run [(.astore 4, 2, 4, 0, .null), (.aload_n 0, 1, 0, 0, .null), (.getfield 18, 3, 1, 5, .ref 3), (.iload_n 3, 1, 3, 0, .null), (.iconst 0, 1, 0, 0, .int 0), (.iastore, 1, 2, 0, .null), (.iconst 0, 1, 0, 0, .int 0), (.istore 5, 2, 5, 0, .null)] 28 (by decide +kernel) ?_
    show isK sh c 1 ∧ (isA sh (c + 3) 10 2 ∧ inb v3 2) ∧ Fx q_Cu_begin 3 sh 28 [some (.ref c), some (.ref v1), some (.ref v2), some (.int v3), some (.ref r12), some (.int 0)] [] (upI hp (c + 3) (ix v3) 0) none res
    refine ⟨hS.1, ⟨hS.2.2.2.1, g13⟩, ?_⟩
    have hl := t_Cu_begin_l28 sh c hS (upI hp (c + 3) (ix v3) 0) v1 (hv1) v2 (hv2) v3 r12 ((rowsOf_S hv1 hr12)) res ((upI hp (c + 3) (ix v3) 0), 0) _ hf hk
    have hl : Fx q_Cu_begin 3 sh 28 [some (.ref c), some (.ref v1), some (.ref v2), some (.int v3), some (.ref r12), some (.int 0)] [] (upI hp (c + 3) (ix v3) 0) none res := hl
    exact Fx.le hl (And.intro rfl (And.intro rfl (And.intro rfl (And.intro rfl (And.intro rfl (And.intro rfl trivial))))))
set_option maxHeartbeats 4000000 in
set_option maxRecDepth 20000 in
theorem t_Cu_begin (sh : Shp) (c : Nat) (hS : S_Cu sh c) (hp : HP) (v1 : Nat) (hv1 : S_St sh v1) (v2 : Nat) (hv2 : S_Co sh v2) (res : HP) (hf : f_Cu_begin c hp v1 v2 = some res) : Ex 3 q_Cu_begin sh [.ref c, .ref v1, .ref v2] hp none res := by
  refine Ex.of [some (.ref c), some (.ref v1), some (.ref v2), none, none, none] rfl (Nat.le_of_ble_eq_true rfl) (by decide +kernel) rfl ?_
  obtain ⟨t, hk⟩ : ∃ t, t = res := ⟨res, rfl⟩
  rw [← hk] at hf
  unfold f_Cu_begin at hf
  refine Fx.run [(.aload_n 2, 1, 2, 0, .null)] 1 (by decide +kernel) ?_
  show Fx q_Cu_begin 3 sh 1 [some (.ref c), some (.ref v1), some (.ref v2), none, none, none] [.ref v2] hp none res
  replace hf := bnd hf
  obtain ⟨h2, hr1, hf⟩ := hf
  refine Fx.callV (rr := none) (hp1 := h2) [] [] lk_1_59 (by decide +kernel) (t_Co_empty sh v2 (hv2) hp h2 hr1) ⟨Nat.le_of_ble_eq_true rfl, Nat.le_of_ble_eq_true rfl⟩ (hv2).1 (by decide) rfl (Nat.le_of_ble_eq_true rfl) ?_
  show Fx q_Cu_begin 3 sh 4 [some (.ref c), some (.ref v1), some (.ref v2), none, none, none] [] h2 none res
  refine Fx.run [(.iconst 0, 1, 0, 0, .int 0), (.istore_n 3, 1, 3, 0, .null)] 6 (by decide +kernel) ?_
  show Fx q_Cu_begin 3 sh 6 [some (.ref c), some (.ref v1), some (.ref v2), some (.int 0), none, none] [] h2 none res
  have hl := t_Cu_begin_l6 sh c hS h2 v1 (hv1) v2 (hv2) res (h2, 0) _ hf hk
  have hl : Fx q_Cu_begin 3 sh 6 [some (.ref c), some (.ref v1), some (.ref v2), some (.int 0), none, none] [] h2 none res := hl
  exact Fx.le hl (And.intro rfl (And.intro rfl (And.intro rfl (And.intro rfl trivial))))
set_option maxHeartbeats 4000000 in
set_option maxRecDepth 20000 in
theorem t_TJ_sweep (sh : Shp) (c : Nat) (hS : S_TJ sh c) (hp : HP)  (res : (HP × Int32)) (hf : f_TJ_sweep c hp  = some res) : Ex 4 q_TJ_sweep sh [.ref c] hp (some (.int res.2)) res.1 := by
  refine Ex.of [some (.ref c)] rfl (Nat.le_of_ble_eq_true rfl) (by decide +kernel) rfl ?_
  obtain ⟨t, hk⟩ : ∃ t, t = res := ⟨res, rfl⟩
  rw [← hk] at hf
  unfold f_TJ_sweep at hf
  refine Fx.run [(.aload_n 0, 1, 0, 0, .null), (.getfield 12, 3, 8, 0, .ref 1), (.getfield 41, 3, 5, 3, .ref 19)] 7 (by decide +kernel) ?_
  show isK sh c 8 ∧ isK sh (c + 1) 5 ∧ Fx q_TJ_sweep 4 sh 7 [some (.ref c)] [.ref ((c + 1) + 19)] hp (some (.int res.2)) res.1
  refine ⟨hS.1, hS.2.1.1, ?_⟩
  replace hf := bnd hf
  obtain ⟨h2, hr1, hf⟩ := hf
  refine Fx.callV (rr := none) (hp1 := h2) [] [] lk_8_45 (by decide +kernel) (t_Tr_forget sh ((c + 1) + 19) (hS.2.1.2.2.2.2.1) hp h2 hr1) ⟨Nat.le_of_ble_eq_true rfl, Nat.le_of_ble_eq_true rfl⟩ (hS.2.1.2.2.2.2.1).1 (by decide) rfl (Nat.le_of_ble_eq_true rfl) ?_
  show Fx q_TJ_sweep 4 sh 10 [some (.ref c)] [] h2 (some (.int res.2)) res.1
  refine Fx.run [(.aload_n 0, 1, 0, 0, .null), (.getfield 12, 3, 8, 0, .ref 1), (.getfield 58, 3, 5, 4, .ref 22), (.getfield 62, 3, 1, 3, .null)] 20 (by decide +kernel) ?_
  show isK sh c 8 ∧ isK sh (c + 1) 5 ∧ isK sh ((c + 1) + 22) 1 ∧ Fx q_TJ_sweep 4 sh 20 [some (.ref c)] [.int (h2.1 ((c + 1) + 22) 3)] h2 (some (.int res.2)) res.1
  refine ⟨hS.1, hS.2.1.1, hS.2.1.2.2.2.2.2.1.1, ?_⟩
  refine Fx.if_eq (27) 47 23 (by decide +kernel) (fun b3 => ?_) (fun b3 => ?_)
  · replace hf := ifp b3 hf
    refine Fx.run [(.aload_n 0, 1, 0, 0, .null), (.getfield 12, 3, 8, 0, .ref 1), (.getfield 58, 3, 5, 4, .ref 22), (.aload_n 0, 1, 0, 0, .null), (.getfield 12, 3, 8, 0, .ref 1), (.aload_n 0, 1, 0, 0, .null), (.getfield 19, 3, 8, 2, .ref 32)] 62 (by decide +kernel) ?_
    show isK sh c 8 ∧ isK sh (c + 1) 5 ∧ isK sh c 8 ∧ isK sh c 8 ∧ Fx q_TJ_sweep 4 sh 62 [some (.ref c)] [.ref (c + 32), .ref (c + 1), .ref ((c + 1) + 22)] h2 (some (.int res.2)) res.1
    refine ⟨hS.1, hS.2.1.1, hS.1, hS.1, ?_⟩
    replace hf := bnd hf
    obtain ⟨h5, hr4, hf⟩ := hf
    refine Fx.callV (rr := none) (hp1 := h5) [.ref (c + 1), .ref (c + 32)] [] lk_8_130 (by decide +kernel) (t_Cu_begin sh ((c + 1) + 22) (hS.2.1.2.2.2.2.2.1) h2 (c + 1) (hS.2.1) (c + 32) (hS.2.2.1) h5 hr4) ⟨Nat.le_of_ble_eq_true rfl, Nat.le_of_ble_eq_true rfl⟩ (hS.2.1.2.2.2.2.2.1).1 (by decide) rfl (Nat.le_of_ble_eq_true rfl) ?_
    show Fx q_TJ_sweep 4 sh 65 [some (.ref c)] [] h5 (some (.int res.2)) res.1
    refine Fx.run [(.aload_n 0, 1, 0, 0, .null), (.getfield 12, 3, 8, 0, .ref 1), (.getfield 58, 3, 5, 4, .ref 22), (.getfield 134, 3, 1, 1, .null)] 75 (by decide +kernel) ?_
    show isK sh c 8 ∧ isK sh (c + 1) 5 ∧ isK sh ((c + 1) + 22) 1 ∧ Fx q_TJ_sweep 4 sh 75 [some (.ref c)] [.int (h5.1 ((c + 1) + 22) 1)] h5 (some (.int res.2)) res.1
    refine ⟨hS.1, hS.2.1.1, hS.2.1.2.2.2.2.2.1.1, ?_⟩
    obtain rfl := Option.some.inj hf
    have hk : (h5, (h5.1 ((c + 1) + 22) 1)) = res := hk
    subst hk
    exact Fx.iret (by decide +kernel) rfl
  · replace hf := ifn b3 hf
    refine Fx.run [(.aload_n 0, 1, 0, 0, .null), (.getfield 12, 3, 8, 0, .ref 1), (.getfield 41, 3, 5, 3, .ref 19), (.bipush 8, 2, 0, 0, .int 8), (.aload_n 0, 1, 0, 0, .null), (.getfield 12, 3, 8, 0, .ref 1), (.getfield 58, 3, 5, 4, .ref 22), (.getfield 68, 3, 1, 2, .null)] 42 (by decide +kernel) ?_
    show isK sh c 8 ∧ isK sh (c + 1) 5 ∧ isK sh c 8 ∧ isK sh (c + 1) 5 ∧ isK sh ((c + 1) + 22) 1 ∧ Fx q_TJ_sweep 4 sh 42 [some (.ref c)] [.int (h2.1 ((c + 1) + 22) 2), .int 8, .ref ((c + 1) + 19)] h2 (some (.int res.2)) res.1
    refine ⟨hS.1, hS.2.1.1, hS.1, hS.2.1.1, hS.2.1.2.2.2.2.2.1.1, ?_⟩
    replace hf := bnd hf
    obtain ⟨h7, hr6, hf⟩ := hf
    refine Fx.callV (rr := none) (hp1 := h7) [.int 8, .int (h2.1 ((c + 1) + 22) 2)] [] lk_8_54 (by decide +kernel) (t_Tr_because sh ((c + 1) + 19) (hS.2.1.2.2.2.2.1) h2 8 (h2.1 ((c + 1) + 22) 2) h7 hr6) ⟨Nat.le_of_ble_eq_true rfl, Nat.le_of_ble_eq_true rfl⟩ (hS.2.1.2.2.2.2.1).1 (by decide) rfl (Nat.le_of_ble_eq_true rfl) ?_
    show Fx q_TJ_sweep 4 sh 45 [some (.ref c)] [] h7 (some (.int res.2)) res.1
    refine Fx.run [(.iconst (-1), 1, 0, 0, .int (-1))] 46 (by decide +kernel) ?_
    show Fx q_TJ_sweep 4 sh 46 [some (.ref c)] [.int (-1)] h7 (some (.int res.2)) res.1
    obtain rfl := Option.some.inj hf
    have hk : (h7, (-1)) = res := hk
    subst hk
    exact Fx.iret (by decide +kernel) rfl
set_option maxHeartbeats 4000000 in
set_option maxRecDepth 20000 in
theorem t_Ro_keyOf (sh : Shp) (c : Nat) (hS : S_Ro sh c) (hp : HP) (v1 : Int32) (res : Int32) (hf : f_Ro_keyOf c hp v1 = some res) : Ex 2 q_Ro_keyOf sh [.ref c, .int v1] hp (some (.int res)) hp := by
  refine Ex.of [some (.ref c), some (.int v1)] rfl (Nat.le_of_ble_eq_true rfl) (by decide +kernel) rfl ?_
  obtain ⟨t, hk⟩ : ∃ t, t = res := ⟨res, rfl⟩
  rw [← hk] at hf
  unfold f_Ro_keyOf at hf
  refine Fx.run [(.aload_n 0, 1, 0, 0, .null), (.iload_n 1, 1, 1, 0, .null)] 2 (by decide +kernel) ?_
  show Fx q_Ro_keyOf 2 sh 2 [some (.ref c), some (.int v1)] [.int v1, .ref c] hp (some (.int res)) hp
  replace hf := bnd hf
  obtain ⟨r1, hr1, hf⟩ := hf
  refine Fx.callV (rr := (some (.int r1))) (hp1 := hp) [.int v1] [] lk_4_51 (by decide +kernel) (t_Ro_has sh c (hS) hp v1 r1 hr1) ⟨Nat.le_of_ble_eq_true rfl, Nat.le_of_ble_eq_true rfl⟩ (hS).1 (by decide) rfl (Nat.le_of_ble_eq_true rfl) ?_
  show Fx q_Ro_keyOf 2 sh 5 [some (.ref c), some (.int v1)] [.int r1] hp (some (.int res)) hp
  refine Fx.if_eq (12) 17 8 (by decide +kernel) (fun b2 => ?_) (fun b2 => ?_)
  · replace hf := ifp b2 hf
    refine Fx.run [(.iconst (-1), 1, 0, 0, .int (-1))] 18 (by decide +kernel) ?_
    show Fx q_Ro_keyOf 2 sh 18 [some (.ref c), some (.int v1)] [.int (-1)] hp (some (.int res)) hp
    obtain rfl := Option.some.inj hf
    have hk : (-1) = res := hk
    subst hk
    exact Fx.iret (by decide +kernel) rfl
  · replace hf := ifn b2 hf
    replace hf := gd hf
    obtain ⟨g3, hf⟩ := hf
    refine Fx.run [(.aload_n 0, 1, 0, 0, .null), (.getfield 15, 3, 4, 1, .ref 2), (.iload_n 1, 1, 1, 0, .null), (.iaload, 1, 40, 0, .null)] 14 (by decide +kernel) ?_
    show isK sh c 4 ∧ (isA sh (c + 2) 10 40 ∧ inb v1 40) ∧ Fx q_Ro_keyOf 2 sh 14 [some (.ref c), some (.int v1)] [.int (hp.1 (c + 2) (ix v1))] hp (some (.int res)) hp
    refine ⟨hS.1, ⟨hS.2.2.1, g3⟩, ?_⟩
    refine Fx.goto (4) 18 (by decide +kernel) ?_
    obtain rfl := Option.some.inj hf
    have hk : (hp.1 (c + 2) (ix v1)) = res := hk
    subst hk
    exact Fx.iret (by decide +kernel) rfl
set_option maxHeartbeats 4000000 in
set_option maxRecDepth 20000 in
theorem t_St_keysFit (sh : Shp) (c : Nat) (hS : S_St sh c) (hp : HP) (v1 : Int32) (v2 : Int32) (v3 : Int32) (res : Int32) (hf : f_St_keysFit c hp v1 v2 v3 = some res) : Ex 3 q_St_keysFit sh [.ref c, .int v1, .int v2, .int v3] hp (some (.int res)) hp := by
  refine Ex.of [some (.ref c), some (.int v1), some (.int v2), some (.int v3)] rfl (Nat.le_of_ble_eq_true rfl) (by decide +kernel) rfl ?_
  obtain ⟨t, hk⟩ : ∃ t, t = res := ⟨res, rfl⟩
  rw [← hk] at hf
  unfold f_St_keysFit at hf
  refine Fx.run [(.aload_n 0, 1, 0, 0, .null), (.getfield 45, 3, 5, 6, .null)] 4 (by decide +kernel) ?_
  show isK sh c 5 ∧ Fx q_St_keysFit 3 sh 4 [some (.ref c), some (.int v1), some (.int v2), some (.int v3)] [.int (hp.1 c 6)] hp (some (.int res)) hp
  refine ⟨hS.1, ?_⟩
  refine Fx.if_eq (26) 30 7 (by decide +kernel) (fun b1 => ?_) (fun b1 => ?_)
  · replace hf := ifp b1 hf
    refine Fx.run [(.iconst 1, 1, 0, 0, .int 1)] 31 (by decide +kernel) ?_
    show Fx q_St_keysFit 3 sh 31 [some (.ref c), some (.int v1), some (.int v2), some (.int v3)] [.int 1] hp (some (.int res)) hp
    refine Fx.goto (4) 35 (by decide +kernel) ?_
    obtain rfl := Option.some.inj hf
    have hk : 1 = res := hk
    subst hk
    exact Fx.zret (by decide +kernel) rfl (Or.inr rfl)
  · replace hf := ifn b1 hf
    refine Fx.run [(.aload_n 0, 1, 0, 0, .null), (.iload_n 1, 1, 1, 0, .null)] 9 (by decide +kernel) ?_
    show Fx q_St_keysFit 3 sh 9 [some (.ref c), some (.int v1), some (.int v2), some (.int v3)] [.int v1, .ref c] hp (some (.int res)) hp
    replace hf := bnd hf
    obtain ⟨r2, hr2, hf⟩ := hf
    refine Fx.callV (rr := (some (.ref r2))) (hp1 := hp) [.int v1] [] lk_5_66 (by decide +kernel) (t_St_rowsOf sh c (hS) hp v1 r2 hr2) ⟨Nat.le_of_ble_eq_true rfl, Nat.le_of_ble_eq_true rfl⟩ (hS).1 (by decide) rfl (Nat.le_of_ble_eq_true rfl) ?_
    show Fx q_St_keysFit 3 sh 12 [some (.ref c), some (.int v1), some (.int v2), some (.int v3)] [.ref r2] hp (some (.int res)) hp
    refine Fx.run [(.iload_n 2, 1, 2, 0, .null)] 13 (by decide +kernel) ?_
    show Fx q_St_keysFit 3 sh 13 [some (.ref c), some (.int v1), some (.int v2), some (.int v3)] [.int v2, .ref r2] hp (some (.int res)) hp
    replace hf := bnd hf
    obtain ⟨r3, hr3, hf⟩ := hf
    refine Fx.callV (rr := (some (.int r3))) (hp1 := hp) [.int v2] [] lk_5_81 (by decide +kernel) (t_Ro_keyOf sh r2 ((rowsOf_S hS hr2)) hp v2 r3 hr3) ⟨Nat.le_of_ble_eq_true rfl, Nat.le_of_ble_eq_true rfl⟩ ((rowsOf_S hS hr2)).1 (by decide) rfl (Nat.le_of_ble_eq_true rfl) ?_
    show Fx q_St_keysFit 3 sh 16 [some (.ref c), some (.int v1), some (.int v2), some (.int v3)] [.int r3] hp (some (.int res)) hp
    refine Fx.run [(.aload_n 0, 1, 0, 0, .null), (.iconst 1, 1, 0, 0, .int 1), (.iload_n 1, 1, 1, 0, .null), (.isub, 1, 0, 0, .null)] 20 (by decide +kernel) ?_
    show Fx q_St_keysFit 3 sh 20 [some (.ref c), some (.int v1), some (.int v2), some (.int v3)] [.int (1 - v1), .ref c, .int r3] hp (some (.int res)) hp
    replace hf := bnd hf
    obtain ⟨r4, hr4, hf⟩ := hf
    refine Fx.callV (rr := (some (.ref r4))) (hp1 := hp) [.int (1 - v1)] [.int r3] lk_5_66 (by decide +kernel) (t_St_rowsOf sh c (hS) hp (1 - v1) r4 hr4) ⟨Nat.le_of_ble_eq_true rfl, Nat.le_of_ble_eq_true rfl⟩ (hS).1 (by decide) rfl (Nat.le_of_ble_eq_true rfl) ?_
    show Fx q_St_keysFit 3 sh 23 [some (.ref c), some (.int v1), some (.int v2), some (.int v3)] [.ref r4, .int r3] hp (some (.int res)) hp
    refine Fx.run [(.iload_n 3, 1, 3, 0, .null)] 24 (by decide +kernel) ?_
    show Fx q_St_keysFit 3 sh 24 [some (.ref c), some (.int v1), some (.int v2), some (.int v3)] [.int v3, .ref r4, .int r3] hp (some (.int res)) hp
    replace hf := bnd hf
    obtain ⟨r5, hr5, hf⟩ := hf
    refine Fx.callV (rr := (some (.int r5))) (hp1 := hp) [.int v3] [.int r3] lk_5_81 (by decide +kernel) (t_Ro_keyOf sh r4 ((rowsOf_S hS hr4)) hp v3 r5 hr5) ⟨Nat.le_of_ble_eq_true rfl, Nat.le_of_ble_eq_true rfl⟩ ((rowsOf_S hS hr4)).1 (by decide) rfl (Nat.le_of_ble_eq_true rfl) ?_
    show Fx q_St_keysFit 3 sh 27 [some (.ref c), some (.int v1), some (.int v2), some (.int v3)] [.int r5, .int r3] hp (some (.int res)) hp
    refine Fx.icmp_ne (7) 34 30 (by decide +kernel) (fun b6 => ?_) (fun b6 => ?_)
    · replace hf := ifn b6 hf
      refine Fx.run [(.iconst 0, 1, 0, 0, .int 0)] 35 (by decide +kernel) ?_
      show Fx q_St_keysFit 3 sh 35 [some (.ref c), some (.int v1), some (.int v2), some (.int v3)] [.int 0] hp (some (.int res)) hp
      obtain rfl := Option.some.inj hf
      have hk : 0 = res := hk
      subst hk
      exact Fx.zret (by decide +kernel) rfl (Or.inl rfl)
    · replace hf := ifp b6 hf
      refine Fx.run [(.iconst 1, 1, 0, 0, .int 1)] 31 (by decide +kernel) ?_
      show Fx q_St_keysFit 3 sh 31 [some (.ref c), some (.int v1), some (.int v2), some (.int v3)] [.int 1] hp (some (.int res)) hp
      refine Fx.goto (4) 35 (by decide +kernel) ?_
      obtain rfl := Option.some.inj hf
      have hk : 1 = res := hk
      subst hk
      exact Fx.zret (by decide +kernel) rfl (Or.inr rfl)
set_option maxHeartbeats 4000000 in
set_option maxRecDepth 20000 in
theorem t_TJ_byEnds (sh : Shp) (hp : HP) (v0 : Int32) (v1 : Int32) (v2 : Int32) (v3 : Int32) (v4 : Int32) (res : Int32) (hf : f_TJ_byEnds v0 v1 v2 v3 v4 = some res) : Ex 1 q_TJ_byEnds sh [.int v0, .int v1, .int v2, .int v3, .int v4] hp (some (.int res)) hp := by
  refine Ex.of [some (.int v0), some (.int v1), some (.int v2), some (.int v3), some (.int v4)] rfl (Nat.le_of_ble_eq_true rfl) (by decide +kernel) rfl ?_
  obtain ⟨t, hk⟩ : ∃ t, t = res := ⟨res, rfl⟩
  rw [← hk] at hf
  unfold f_TJ_byEnds at hf
  refine Fx.run [(.iload_n 0, 1, 0, 0, .null), (.iload_n 1, 1, 1, 0, .null)] 2 (by decide +kernel) ?_
  show Fx q_TJ_byEnds 1 sh 2 [some (.int v0), some (.int v1), some (.int v2), some (.int v3), some (.int v4)] [.int v1, .int v0] hp (some (.int res)) hp
  refine Fx.icmp_ne (5) 7 5 (by decide +kernel) (fun b1 => ?_) (fun b1 => ?_)
  · replace hf := ifn b1 hf
    refine Fx.run [(.iload_n 0, 1, 0, 0, .null), (.iload_n 1, 1, 1, 0, .null)] 9 (by decide +kernel) ?_
    show Fx q_TJ_byEnds 1 sh 9 [some (.int v0), some (.int v1), some (.int v2), some (.int v3), some (.int v4)] [.int v1, .int v0] hp (some (.int res)) hp
    refine Fx.icmp_ge (7) 16 12 (by decide +kernel) (fun b2 => ?_) (fun b2 => ?_)
    · replace hf := ifp b2 hf
      refine Fx.run [(.iload 4, 2, 4, 0, .null)] 18 (by decide +kernel) ?_
      show Fx q_TJ_byEnds 1 sh 18 [some (.int v0), some (.int v1), some (.int v2), some (.int v3), some (.int v4)] [.int v4] hp (some (.int res)) hp
      obtain rfl := Option.some.inj hf
      have hk : v4 = res := hk
      subst hk
      exact Fx.iret (by decide +kernel) rfl
    · replace hf := ifn b2 hf
      refine Fx.run [(.iload_n 2, 1, 2, 0, .null)] 13 (by decide +kernel) ?_
      show Fx q_TJ_byEnds 1 sh 13 [some (.int v0), some (.int v1), some (.int v2), some (.int v3), some (.int v4)] [.int v2] hp (some (.int res)) hp
      refine Fx.goto (5) 18 (by decide +kernel) ?_
      obtain rfl := Option.some.inj hf
      have hk : v2 = res := hk
      subst hk
      exact Fx.iret (by decide +kernel) rfl
  · replace hf := ifp b1 hf
    refine Fx.run [(.iload_n 3, 1, 3, 0, .null)] 6 (by decide +kernel) ?_
    show Fx q_TJ_byEnds 1 sh 6 [some (.int v0), some (.int v1), some (.int v2), some (.int v3), some (.int v4)] [.int v3] hp (some (.int res)) hp
    obtain rfl := Option.some.inj hf
    have hk : v3 = res := hk
    subst hk
    exact Fx.iret (by decide +kernel) rfl
set_option maxHeartbeats 4000000 in
set_option maxRecDepth 20000 in
theorem t_TJ_kindByPlaces (sh : Shp) (hp : HP) (v0 : Int32) (v1 : Int32) (v2 : Int32) (v3 : Int32) (res : Int32) (hf : f_TJ_kindByPlaces v0 v1 v2 v3 = some res) : Ex 2 q_TJ_kindByPlaces sh [.int v0, .int v1, .int v2, .int v3] hp (some (.int res)) hp := by
  refine Ex.of [some (.int v0), some (.int v1), some (.int v2), some (.int v3)] rfl (Nat.le_of_ble_eq_true rfl) (by decide +kernel) rfl ?_
  obtain ⟨t, hk⟩ : ∃ t, t = res := ⟨res, rfl⟩
  rw [← hk] at hf
  unfold f_TJ_kindByPlaces at hf
  refine Fx.run [(.iload_n 1, 1, 1, 0, .null), (.iload_n 2, 1, 2, 0, .null)] 2 (by decide +kernel) ?_
  show Fx q_TJ_kindByPlaces 2 sh 2 [some (.int v0), some (.int v1), some (.int v2), some (.int v3)] [.int v2, .int v1] hp (some (.int res)) hp
  refine Fx.icmp_gt (14) 16 5 (by decide +kernel) (fun b1 => ?_) (fun b1 => ?_)
  · replace hf := ifp b1 hf
    refine Fx.run [(.iload_n 3, 1, 3, 0, .null), (.iload_n 0, 1, 0, 0, .null)] 18 (by decide +kernel) ?_
    show Fx q_TJ_kindByPlaces 2 sh 18 [some (.int v0), some (.int v1), some (.int v2), some (.int v3)] [.int v0, .int v3] hp (some (.int res)) hp
    refine Fx.icmp_gt (16) 34 21 (by decide +kernel) (fun b2 => ?_) (fun b2 => ?_)
    · replace hf := ifp b2 hf
      refine Fx.run [(.iload_n 0, 1, 0, 0, .null), (.iload_n 2, 1, 2, 0, .null)] 36 (by decide +kernel) ?_
      show Fx q_TJ_kindByPlaces 2 sh 36 [some (.int v0), some (.int v1), some (.int v2), some (.int v3)] [.int v2, .int v0] hp (some (.int res)) hp
      refine Fx.icmp_ge (14) 50 39 (by decide +kernel) (fun b3 => ?_) (fun b3 => ?_)
      · replace hf := ifp b3 hf
        refine Fx.run [(.iload_n 0, 1, 0, 0, .null), (.iload_n 2, 1, 2, 0, .null)] 52 (by decide +kernel) ?_
        show Fx q_TJ_kindByPlaces 2 sh 52 [some (.int v0), some (.int v1), some (.int v2), some (.int v3)] [.int v2, .int v0] hp (some (.int res)) hp
        refine Fx.icmp_ne (14) 66 55 (by decide +kernel) (fun b4 => ?_) (fun b4 => ?_)
        · replace hf := ifn b4 hf
          refine Fx.run [(.iload_n 1, 1, 1, 0, .null), (.iload_n 3, 1, 3, 0, .null), (.iconst 4, 1, 0, 0, .int 4), (.iconst 5, 1, 0, 0, .int 5), (.bipush 10, 2, 0, 0, .int 10)] 72 (by decide +kernel) ?_
          show Fx q_TJ_kindByPlaces 2 sh 72 [some (.int v0), some (.int v1), some (.int v2), some (.int v3)] [.int 10, .int 5, .int 4, .int v3, .int v1] hp (some (.int res)) hp
          replace hf := bnd hf
          obtain ⟨r5, hr5, hf⟩ := hf
          refine Fx.callS (rr := (some (.int r5))) (hp1 := hp) [.int v1, .int v3, .int 4, .int 5, .int 10] [] lk_8_390 (by decide +kernel) (t_TJ_byEnds sh hp v1 v3 4 5 10 r5 hr5) ⟨Nat.le_of_ble_eq_true rfl, Nat.le_of_ble_eq_true rfl⟩ rfl (Nat.le_of_ble_eq_true rfl) ?_
          show Fx q_TJ_kindByPlaces 2 sh 75 [some (.int v0), some (.int v1), some (.int v2), some (.int v3)] [.int r5] hp (some (.int res)) hp
          obtain rfl := Option.some.inj hf
          have hk : r5 = res := hk
          subst hk
          exact Fx.iret (by decide +kernel) rfl
        · replace hf := ifp b4 hf
          refine Fx.run [(.iload_n 1, 1, 1, 0, .null), (.iload_n 3, 1, 3, 0, .null), (.iconst 3, 1, 0, 0, .int 3), (.bipush 6, 2, 0, 0, .int 6), (.bipush 9, 2, 0, 0, .int 9)] 62 (by decide +kernel) ?_
          show Fx q_TJ_kindByPlaces 2 sh 62 [some (.int v0), some (.int v1), some (.int v2), some (.int v3)] [.int 9, .int 6, .int 3, .int v3, .int v1] hp (some (.int res)) hp
          replace hf := bnd hf
          obtain ⟨r6, hr6, hf⟩ := hf
          refine Fx.callS (rr := (some (.int r6))) (hp1 := hp) [.int v1, .int v3, .int 3, .int 6, .int 9] [] lk_8_390 (by decide +kernel) (t_TJ_byEnds sh hp v1 v3 3 6 9 r6 hr6) ⟨Nat.le_of_ble_eq_true rfl, Nat.le_of_ble_eq_true rfl⟩ rfl (Nat.le_of_ble_eq_true rfl) ?_
          show Fx q_TJ_kindByPlaces 2 sh 65 [some (.int v0), some (.int v1), some (.int v2), some (.int v3)] [.int r6] hp (some (.int res)) hp
          obtain rfl := Option.some.inj hf
          have hk : r6 = res := hk
          subst hk
          exact Fx.iret (by decide +kernel) rfl
      · replace hf := ifn b3 hf
        refine Fx.run [(.iload_n 1, 1, 1, 0, .null), (.iload_n 3, 1, 3, 0, .null), (.iconst 2, 1, 0, 0, .int 2), (.bipush 7, 2, 0, 0, .int 7), (.bipush 8, 2, 0, 0, .int 8)] 46 (by decide +kernel) ?_
        show Fx q_TJ_kindByPlaces 2 sh 46 [some (.int v0), some (.int v1), some (.int v2), some (.int v3)] [.int 8, .int 7, .int 2, .int v3, .int v1] hp (some (.int res)) hp
        replace hf := bnd hf
        obtain ⟨r7, hr7, hf⟩ := hf
        refine Fx.callS (rr := (some (.int r7))) (hp1 := hp) [.int v1, .int v3, .int 2, .int 7, .int 8] [] lk_8_390 (by decide +kernel) (t_TJ_byEnds sh hp v1 v3 2 7 8 r7 hr7) ⟨Nat.le_of_ble_eq_true rfl, Nat.le_of_ble_eq_true rfl⟩ rfl (Nat.le_of_ble_eq_true rfl) ?_
        show Fx q_TJ_kindByPlaces 2 sh 49 [some (.int v0), some (.int v1), some (.int v2), some (.int v3)] [.int r7] hp (some (.int res)) hp
        obtain rfl := Option.some.inj hf
        have hk : r7 = res := hk
        subst hk
        exact Fx.iret (by decide +kernel) rfl
    · replace hf := ifn b2 hf
      refine Fx.run [(.iload_n 3, 1, 3, 0, .null), (.iload_n 0, 1, 0, 0, .null)] 23 (by decide +kernel) ?_
      show Fx q_TJ_kindByPlaces 2 sh 23 [some (.int v0), some (.int v1), some (.int v2), some (.int v3)] [.int v0, .int v3] hp (some (.int res)) hp
      refine Fx.icmp_ge (8) 31 26 (by decide +kernel) (fun b8 => ?_) (fun b8 => ?_)
      · replace hf := ifp b8 hf
        refine Fx.run [(.bipush 11, 2, 0, 0, .int 11)] 33 (by decide +kernel) ?_
        show Fx q_TJ_kindByPlaces 2 sh 33 [some (.int v0), some (.int v1), some (.int v2), some (.int v3)] [.int 11] hp (some (.int res)) hp
        obtain rfl := Option.some.inj hf
        have hk : 11 = res := hk
        subst hk
        exact Fx.iret (by decide +kernel) rfl
      · replace hf := ifn b8 hf
        refine Fx.run [(.bipush 12, 2, 0, 0, .int 12)] 28 (by decide +kernel) ?_
        show Fx q_TJ_kindByPlaces 2 sh 28 [some (.int v0), some (.int v1), some (.int v2), some (.int v3)] [.int 12] hp (some (.int res)) hp
        refine Fx.goto (5) 33 (by decide +kernel) ?_
        obtain rfl := Option.some.inj hf
        have hk : 12 = res := hk
        subst hk
        exact Fx.iret (by decide +kernel) rfl
  · replace hf := ifn b1 hf
    refine Fx.run [(.iload_n 1, 1, 1, 0, .null), (.iload_n 2, 1, 2, 0, .null)] 7 (by decide +kernel) ?_
    show Fx q_TJ_kindByPlaces 2 sh 7 [some (.int v0), some (.int v1), some (.int v2), some (.int v3)] [.int v2, .int v1] hp (some (.int res)) hp
    refine Fx.icmp_ge (7) 14 10 (by decide +kernel) (fun b9 => ?_) (fun b9 => ?_)
    · replace hf := ifp b9 hf
      refine Fx.run [(.iconst 1, 1, 0, 0, .int 1)] 15 (by decide +kernel) ?_
      show Fx q_TJ_kindByPlaces 2 sh 15 [some (.int v0), some (.int v1), some (.int v2), some (.int v3)] [.int 1] hp (some (.int res)) hp
      obtain rfl := Option.some.inj hf
      have hk : 1 = res := hk
      subst hk
      exact Fx.iret (by decide +kernel) rfl
    · replace hf := ifn b9 hf
      refine Fx.run [(.iconst 0, 1, 0, 0, .int 0)] 11 (by decide +kernel) ?_
      show Fx q_TJ_kindByPlaces 2 sh 11 [some (.int v0), some (.int v1), some (.int v2), some (.int v3)] [.int 0] hp (some (.int res)) hp
      refine Fx.goto (4) 15 (by decide +kernel) ?_
      obtain rfl := Option.some.inj hf
      have hk : 0 = res := hk
      subst hk
      exact Fx.iret (by decide +kernel) rfl
set_option maxHeartbeats 4000000 in
set_option maxRecDepth 20000 in
theorem t_St_kindOf (sh : Shp) (c : Nat) (hS : S_St sh c) (hp : HP) (v1 : Int32) (v2 : Int32) (v3 : Int32) (v4 : Int32) (res : Int32) (hf : f_St_kindOf c hp v1 v2 v3 v4 = some res) : Ex 3 q_St_kindOf sh [.ref c, .int v1, .int v2, .int v3, .int v4] hp (some (.int res)) hp := by
  refine Ex.of [some (.ref c), some (.int v1), some (.int v2), some (.int v3), some (.int v4), none, none] rfl (Nat.le_of_ble_eq_true rfl) (by decide +kernel) rfl ?_
  obtain ⟨t, hk⟩ : ∃ t, t = res := ⟨res, rfl⟩
  rw [← hk] at hf
  unfold f_St_kindOf at hf
  refine Fx.run [(.aload_n 0, 1, 0, 0, .null), (.iload_n 1, 1, 1, 0, .null)] 2 (by decide +kernel) ?_
  show Fx q_St_kindOf 3 sh 2 [some (.ref c), some (.int v1), some (.int v2), some (.int v3), some (.int v4), none, none] [.int v1, .ref c] hp (some (.int res)) hp
  replace hf := bnd hf
  obtain ⟨r1, hr1, hf⟩ := hf
  refine Fx.callV (rr := (some (.ref r1))) (hp1 := hp) [.int v1] [] lk_5_66 (by decide +kernel) (t_St_rowsOf sh c (hS) hp v1 r1 hr1) ⟨Nat.le_of_ble_eq_true rfl, Nat.le_of_ble_eq_true rfl⟩ (hS).1 (by decide) rfl (Nat.le_of_ble_eq_true rfl) ?_
  show Fx q_St_kindOf 3 sh 5 [some (.ref c), some (.int v1), some (.int v2), some (.int v3), some (.int v4), none, none] [.ref r1] hp (some (.int res)) hp
  refine Fx.run [(.astore 5, 2, 5, 0, .null), (.aload_n 0, 1, 0, 0, .null), (.iload_n 3, 1, 3, 0, .null)] 9 (by decide +kernel) ?_
  show Fx q_St_kindOf 3 sh 9 [some (.ref c), some (.int v1), some (.int v2), some (.int v3), some (.int v4), some (.ref r1), none] [.int v3, .ref c] hp (some (.int res)) hp
  replace hf := bnd hf
  obtain ⟨r2, hr2, hf⟩ := hf
  refine Fx.callV (rr := (some (.ref r2))) (hp1 := hp) [.int v3] [] lk_5_66 (by decide +kernel) (t_St_rowsOf sh c (hS) hp v3 r2 hr2) ⟨Nat.le_of_ble_eq_true rfl, Nat.le_of_ble_eq_true rfl⟩ (hS).1 (by decide) rfl (Nat.le_of_ble_eq_true rfl) ?_
  show Fx q_St_kindOf 3 sh 12 [some (.ref c), some (.int v1), some (.int v2), some (.int v3), some (.int v4), some (.ref r1), none] [.ref r2] hp (some (.int res)) hp
  refine Fx.run [(.astore 6, 2, 6, 0, .null), (.aload 5, 2, 5, 0, .null), (.iload_n 2, 1, 2, 0, .null)] 17 (by decide +kernel) ?_
  show Fx q_St_kindOf 3 sh 17 [some (.ref c), some (.int v1), some (.int v2), some (.int v3), some (.int v4), some (.ref r1), some (.ref r2)] [.int v2, .ref r1] hp (some (.int res)) hp
  replace hf := bnd hf
  obtain ⟨r3, hr3, hf⟩ := hf
  refine Fx.callV (rr := (some (.int r3))) (hp1 := hp) [.int v2] [] lk_5_70 (by decide +kernel) (t_Ro_startPlace sh r1 ((rowsOf_S hS hr1)) hp v2 r3 hr3) ⟨Nat.le_of_ble_eq_true rfl, Nat.le_of_ble_eq_true rfl⟩ ((rowsOf_S hS hr1)).1 (by decide) rfl (Nat.le_of_ble_eq_true rfl) ?_
  show Fx q_St_kindOf 3 sh 20 [some (.ref c), some (.int v1), some (.int v2), some (.int v3), some (.int v4), some (.ref r1), some (.ref r2)] [.int r3] hp (some (.int res)) hp
  refine Fx.run [(.aload 5, 2, 5, 0, .null), (.iload_n 2, 1, 2, 0, .null)] 23 (by decide +kernel) ?_
  show Fx q_St_kindOf 3 sh 23 [some (.ref c), some (.int v1), some (.int v2), some (.int v3), some (.int v4), some (.ref r1), some (.ref r2)] [.int v2, .ref r1, .int r3] hp (some (.int res)) hp
  replace hf := bnd hf
  obtain ⟨r4, hr4, hf⟩ := hf
  refine Fx.callV (rr := (some (.int r4))) (hp1 := hp) [.int v2] [.int r3] lk_5_74 (by decide +kernel) (t_Ro_endPlace sh r1 ((rowsOf_S hS hr1)) hp v2 r4 hr4) ⟨Nat.le_of_ble_eq_true rfl, Nat.le_of_ble_eq_true rfl⟩ ((rowsOf_S hS hr1)).1 (by decide) rfl (Nat.le_of_ble_eq_true rfl) ?_
  show Fx q_St_kindOf 3 sh 26 [some (.ref c), some (.int v1), some (.int v2), some (.int v3), some (.int v4), some (.ref r1), some (.ref r2)] [.int r4, .int r3] hp (some (.int res)) hp
  refine Fx.run [(.aload 6, 2, 6, 0, .null), (.iload 4, 2, 4, 0, .null)] 30 (by decide +kernel) ?_
  show Fx q_St_kindOf 3 sh 30 [some (.ref c), some (.int v1), some (.int v2), some (.int v3), some (.int v4), some (.ref r1), some (.ref r2)] [.int v4, .ref r2, .int r4, .int r3] hp (some (.int res)) hp
  replace hf := bnd hf
  obtain ⟨r5, hr5, hf⟩ := hf
  refine Fx.callV (rr := (some (.int r5))) (hp1 := hp) [.int v4] [.int r4, .int r3] lk_5_70 (by decide +kernel) (t_Ro_startPlace sh r2 ((rowsOf_S hS hr2)) hp v4 r5 hr5) ⟨Nat.le_of_ble_eq_true rfl, Nat.le_of_ble_eq_true rfl⟩ ((rowsOf_S hS hr2)).1 (by decide) rfl (Nat.le_of_ble_eq_true rfl) ?_
  show Fx q_St_kindOf 3 sh 33 [some (.ref c), some (.int v1), some (.int v2), some (.int v3), some (.int v4), some (.ref r1), some (.ref r2)] [.int r5, .int r4, .int r3] hp (some (.int res)) hp
  refine Fx.run [(.aload 6, 2, 6, 0, .null), (.iload 4, 2, 4, 0, .null)] 37 (by decide +kernel) ?_
  show Fx q_St_kindOf 3 sh 37 [some (.ref c), some (.int v1), some (.int v2), some (.int v3), some (.int v4), some (.ref r1), some (.ref r2)] [.int v4, .ref r2, .int r5, .int r4, .int r3] hp (some (.int res)) hp
  replace hf := bnd hf
  obtain ⟨r6, hr6, hf⟩ := hf
  refine Fx.callV (rr := (some (.int r6))) (hp1 := hp) [.int v4] [.int r5, .int r4, .int r3] lk_5_74 (by decide +kernel) (t_Ro_endPlace sh r2 ((rowsOf_S hS hr2)) hp v4 r6 hr6) ⟨Nat.le_of_ble_eq_true rfl, Nat.le_of_ble_eq_true rfl⟩ ((rowsOf_S hS hr2)).1 (by decide) rfl (Nat.le_of_ble_eq_true rfl) ?_
  show Fx q_St_kindOf 3 sh 40 [some (.ref c), some (.int v1), some (.int v2), some (.int v3), some (.int v4), some (.ref r1), some (.ref r2)] [.int r6, .int r5, .int r4, .int r3] hp (some (.int res)) hp
  replace hf := bnd hf
  obtain ⟨r7, hr7, hf⟩ := hf
  refine Fx.callN (rr := (some (.int r7))) (hp1 := hp) [.int r3, .int r4, .int r5, .int r6] [] lk_5_77 (by decide +kernel) (t_TJ_kindByPlaces sh hp r3 r4 r5 r6 r7 hr7) ⟨Nat.le_of_ble_eq_true rfl, Nat.le_of_ble_eq_true rfl⟩ rfl (Nat.le_of_ble_eq_true rfl) ?_
  show Fx q_St_kindOf 3 sh 43 [some (.ref c), some (.int v1), some (.int v2), some (.int v3), some (.int v4), some (.ref r1), some (.ref r2)] [.int r7] hp (some (.int res)) hp
  obtain rfl := Option.some.inj hf
  have hk : r7 = res := hk
  subst hk
  exact Fx.iret (by decide +kernel) rfl
set_option maxHeartbeats 4000000 in
set_option maxRecDepth 20000 in
theorem t_TJ_holds (sh : Shp) (hp : HP) (v0 : Int32) (v1 : Int32) (res : Int32) (hf : f_TJ_holds v0 v1 = some res) : Ex 1 q_TJ_holds sh [.int v0, .int v1] hp (some (.int res)) hp := by
  refine Ex.of [some (.int v0), some (.int v1)] rfl (Nat.le_of_ble_eq_true rfl) (by decide +kernel) rfl ?_
  obtain ⟨t, hk⟩ : ∃ t, t = res := ⟨res, rfl⟩
  rw [← hk] at hf
  unfold f_TJ_holds at hf
  refine Fx.run [(.iload_n 0, 1, 0, 0, .null), (.iload_n 1, 1, 1, 0, .null), (.ishr, 1, 0, 0, .null), (.iconst 1, 1, 0, 0, .int 1), (.iand, 1, 0, 0, .null)] 5 (by decide +kernel) ?_
  show Fx q_TJ_holds 1 sh 5 [some (.int v0), some (.int v1)] [.int ((v0 >>> (v1 &&& 31)) &&& 1)] hp (some (.int res)) hp
  refine Fx.if_eq (7) 12 8 (by decide +kernel) (fun b1 => ?_) (fun b1 => ?_)
  · replace hf := ifp b1 hf
    refine Fx.run [(.iconst 0, 1, 0, 0, .int 0)] 13 (by decide +kernel) ?_
    show Fx q_TJ_holds 1 sh 13 [some (.int v0), some (.int v1)] [.int 0] hp (some (.int res)) hp
    obtain rfl := Option.some.inj hf
    have hk : 0 = res := hk
    subst hk
    exact Fx.zret (by decide +kernel) rfl (Or.inl rfl)
  · replace hf := ifn b1 hf
    refine Fx.run [(.iconst 1, 1, 0, 0, .int 1)] 9 (by decide +kernel) ?_
    show Fx q_TJ_holds 1 sh 9 [some (.int v0), some (.int v1)] [.int 1] hp (some (.int res)) hp
    refine Fx.goto (4) 13 (by decide +kernel) ?_
    obtain rfl := Option.some.inj hf
    have hk : 1 = res := hk
    subst hk
    exact Fx.zret (by decide +kernel) rfl (Or.inr rfl)
set_option maxHeartbeats 4000000 in
set_option maxRecDepth 20000 in
theorem t_St_arePartners_j35 (sh : Shp) (c : Nat) (hS : S_St sh c) (hp : HP)  (s0 : Int32) (res : Int32) (t : Int32) (hf : f_St_arePartners_j35 c hp  s0 = some t) (hk : (fun v => v = res) t) : Fx q_St_arePartners 4 sh 35 [some (.ref c), none, none, none, none] [.int s0] hp (some (.int res)) hp := by
  unfold f_St_arePartners_j35 at hf
  refine Fx.run [(.istore 4, 2, 4, 0, .null), (.aload_n 0, 1, 0, 0, .null), (.getfield 49, 3, 5, 7, .null), (.iload 4, 2, 4, 0, .null)] 43 (by decide +kernel) ?_
  show isK sh c 5 ∧ Fx q_St_arePartners 4 sh 43 [some (.ref c), none, none, none, some (.int s0)] [.int s0, .int (hp.1 c 7)] hp (some (.int res)) hp
  refine ⟨hS.1, ?_⟩
  replace hf := bnd hf
  obtain ⟨r5, hr5, hf⟩ := hf
  refine Fx.callN (rr := (some (.int r5))) (hp1 := hp) [.int (hp.1 c 7), .int s0] [] lk_5_91 (by decide +kernel) (t_TJ_holds sh hp (hp.1 c 7) s0 r5 hr5) ⟨Nat.le_of_ble_eq_true rfl, Nat.le_of_ble_eq_true rfl⟩ rfl (Nat.le_of_ble_eq_true rfl) ?_
  show Fx q_St_arePartners 4 sh 46 [some (.ref c), none, none, none, some (.int s0)] [.int r5] hp (some (.int res)) hp
  replace hf := gd hf
  obtain ⟨g6, hf⟩ := hf
  obtain rfl := Option.some.inj hf
  have hk : r5 = res := hk
  subst hk
  exact Fx.zret (by decide +kernel) rfl g6
set_option maxHeartbeats 4000000 in
set_option maxRecDepth 20000 in
theorem t_St_arePartners (sh : Shp) (c : Nat) (hS : S_St sh c) (hp : HP) (v1 : Int32) (v2 : Int32) (v3 : Int32) (res : Int32) (hf : f_St_arePartners c hp v1 v2 v3 = some res) : Ex 4 q_St_arePartners sh [.ref c, .int v1, .int v2, .int v3] hp (some (.int res)) hp := by
  refine Ex.of [some (.ref c), some (.int v1), some (.int v2), some (.int v3), none] rfl (Nat.le_of_ble_eq_true rfl) (by decide +kernel) rfl ?_
  obtain ⟨t, hk⟩ : ∃ t, t = res := ⟨res, rfl⟩
  rw [← hk] at hf
  unfold f_St_arePartners at hf
  refine Fx.run [(.aload_n 0, 1, 0, 0, .null), (.iload_n 1, 1, 1, 0, .null), (.iload_n 2, 1, 2, 0, .null), (.iload_n 3, 1, 3, 0, .null)] 4 (by decide +kernel) ?_
  show Fx q_St_arePartners 4 sh 4 [some (.ref c), some (.int v1), some (.int v2), some (.int v3), none] [.int v3, .int v2, .int v1, .ref c] hp (some (.int res)) hp
  replace hf := bnd hf
  obtain ⟨r1, hr1, hf⟩ := hf
  refine Fx.callV (rr := (some (.int r1))) (hp1 := hp) [.int v1, .int v2, .int v3] [] lk_5_84 (by decide +kernel) (t_St_keysFit sh c (hS) hp v1 v2 v3 r1 hr1) ⟨Nat.le_of_ble_eq_true rfl, Nat.le_of_ble_eq_true rfl⟩ (hS).1 (by decide) rfl (Nat.le_of_ble_eq_true rfl) ?_
  show Fx q_St_arePartners 4 sh 7 [some (.ref c), some (.int v1), some (.int v2), some (.int v3), none] [.int r1] hp (some (.int res)) hp
  refine Fx.if_ne (5) 12 10 (by decide +kernel) (fun b2 => ?_) (fun b2 => ?_)
  · replace hf := ifn b2 hf
    refine Fx.run [(.iload_n 1, 1, 1, 0, .null)] 13 (by decide +kernel) ?_
    show Fx q_St_arePartners 4 sh 13 [some (.ref c), some (.int v1), some (.int v2), some (.int v3), none] [.int v1] hp (some (.int res)) hp
    refine Fx.if_ne (14) 27 16 (by decide +kernel) (fun b3 => ?_) (fun b3 => ?_)
    · replace hf := ifn b3 hf
      refine Fx.run [(.aload_n 0, 1, 0, 0, .null), (.iconst 0, 1, 0, 0, .int 0), (.iload_n 3, 1, 3, 0, .null), (.iconst 1, 1, 0, 0, .int 1), (.iload_n 2, 1, 2, 0, .null)] 32 (by decide +kernel) ?_
      show Fx q_St_arePartners 4 sh 32 [some (.ref c), some (.int v1), some (.int v2), some (.int v3), none] [.int v2, .int 1, .int v3, .int 0, .ref c] hp (some (.int res)) hp
      replace hf := bnd hf
      obtain ⟨r4, hr4, hf⟩ := hf
      refine Fx.callV (rr := (some (.int r4))) (hp1 := hp) [.int 0, .int v3, .int 1, .int v2] [] lk_5_88 (by decide +kernel) (t_St_kindOf sh c (hS) hp 0 v3 1 v2 r4 hr4) ⟨Nat.le_of_ble_eq_true rfl, Nat.le_of_ble_eq_true rfl⟩ (hS).1 (by decide) rfl (Nat.le_of_ble_eq_true rfl) ?_
      show Fx q_St_arePartners 4 sh 35 [some (.ref c), some (.int v1), some (.int v2), some (.int v3), none] [.int r4] hp (some (.int res)) hp
      have hl := t_St_arePartners_j35 sh c hS hp  r4 res _ hf hk
      exact Fx.le hl (And.intro rfl trivial)
    · replace hf := ifp b3 hf
      refine Fx.run [(.aload_n 0, 1, 0, 0, .null), (.iconst 0, 1, 0, 0, .int 0), (.iload_n 2, 1, 2, 0, .null), (.iconst 1, 1, 0, 0, .int 1), (.iload_n 3, 1, 3, 0, .null)] 21 (by decide +kernel) ?_
      show Fx q_St_arePartners 4 sh 21 [some (.ref c), some (.int v1), some (.int v2), some (.int v3), none] [.int v3, .int 1, .int v2, .int 0, .ref c] hp (some (.int res)) hp
      replace hf := bnd hf
      obtain ⟨r7, hr7, hf⟩ := hf
      refine Fx.callV (rr := (some (.int r7))) (hp1 := hp) [.int 0, .int v2, .int 1, .int v3] [] lk_5_88 (by decide +kernel) (t_St_kindOf sh c (hS) hp 0 v2 1 v3 r7 hr7) ⟨Nat.le_of_ble_eq_true rfl, Nat.le_of_ble_eq_true rfl⟩ (hS).1 (by decide) rfl (Nat.le_of_ble_eq_true rfl) ?_
      show Fx q_St_arePartners 4 sh 24 [some (.ref c), some (.int v1), some (.int v2), some (.int v3), none] [.int r7] hp (some (.int res)) hp
      refine Fx.goto (11) 35 (by decide +kernel) ?_
      have hl := t_St_arePartners_j35 sh c hS hp  r7 res _ hf hk
      exact Fx.le hl (And.intro rfl trivial)
  · replace hf := ifp b2 hf
    refine Fx.run [(.iconst 0, 1, 0, 0, .int 0)] 11 (by decide +kernel) ?_
    show Fx q_St_arePartners 4 sh 11 [some (.ref c), some (.int v1), some (.int v2), some (.int v3), none] [.int 0] hp (some (.int res)) hp
    obtain rfl := Option.some.inj hf
    have hk : 0 = res := hk
    subst hk
    exact Fx.zret (by decide +kernel) rfl (Or.inl rfl)
set_option maxHeartbeats 4000000 in
set_option maxRecDepth 20000 in
theorem t_Cu_putPair (sh : Shp) (c : Nat) (hS : S_Cu sh c) (hp : HP) (v1 : Int32) (v2 : Int32) (res : HP) (hf : f_Cu_putPair c hp v1 v2 = some res) : Ex 1 q_Cu_putPair sh [.ref c, .int v1, .int v2] hp none res := by
  refine Ex.of [some (.ref c), some (.int v1), some (.int v2)] rfl (Nat.le_of_ble_eq_true rfl) (by decide +kernel) rfl ?_
  obtain ⟨t, hk⟩ : ∃ t, t = res := ⟨res, rfl⟩
  rw [← hk] at hf
  unfold f_Cu_putPair at hf
  refine Fx.run [(.aload_n 0, 1, 0, 0, .null), (.getfield 44, 3, 1, 8, .null), (.sipush 1600, 3, 0, 0, .int 1600)] 7 (by decide +kernel) ?_
  show isK sh c 1 ∧ Fx q_Cu_putPair 1 sh 7 [some (.ref c), some (.int v1), some (.int v2)] [.int 1600, .int (hp.1 c 8)] hp none res
  refine ⟨hS.1, ?_⟩
  refine Fx.icmp_ge (28) 35 10 (by decide +kernel) (fun b1 => ?_) (fun b1 => ?_)
  · replace hf := ifp b1 hf
    obtain rfl := Option.some.inj hf
    have hk : hp = res := hk
    subst hk
    exact Fx.vret (by decide +kernel) rfl
  · replace hf := ifn b1 hf
    replace hf := gd hf
    obtain ⟨g2, hf⟩ := hf
    refine Fx.run [(.aload_n 0, 1, 0, 0, .null), (.getfield 24, 3, 1, 7, .ref 5), (.aload_n 0, 1, 0, 0, .null), (.getfield 44, 3, 1, 8, .null), (.iload_n 1, 1, 1, 0, .null), (.bipush 40, 2, 0, 0, .int 40), (.imul, 1, 0, 0, .null), (.iload_n 2, 1, 2, 0, .null), (.iadd, 1, 0, 0, .null), (.iastore, 1, 1600, 0, .null), (.aload_n 0, 1, 0, 0, .null), (.dup, 1, 0, 0, .null), (.getfield 44, 3, 1, 8, .null), (.iconst 1, 1, 0, 0, .int 1), (.iadd, 1, 0, 0, .null), (.putfield 44, 3, 1, 8, .null)] 35 (by decide +kernel) ?_
    show isK sh c 1 ∧ isK sh c 1 ∧ (isA sh (c + 5) 10 1600 ∧ inb (hp.1 c 8) 1600) ∧ isK sh c 1 ∧ isK sh c 1 ∧ Fx q_Cu_putPair 1 sh 35 [some (.ref c), some (.int v1), some (.int v2)] [] (upI (upI hp (c + 5) (ix (hp.1 c 8)) ((v1 * 40) + v2)) c 8 (((upI hp (c + 5) (ix (hp.1 c 8)) ((v1 * 40) + v2)).1 c 8) + 1)) none res
    refine ⟨hS.1, hS.1, ⟨hS.2.2.2.2.2, g2⟩, hS.1, hS.1, ?_⟩
    obtain rfl := Option.some.inj hf
    have hk : (upI (upI hp (c + 5) (ix (hp.1 c 8)) ((v1 * 40) + v2)) c 8 (((upI hp (c + 5) (ix (hp.1 c 8)) ((v1 * 40) + v2)).1 c 8) + 1)) = res := hk
    subst hk
    exact Fx.vret (by decide +kernel) rfl
abbrev P_Cu_takeStart_11 (sh : Shp) (c : Nat) (v1 : Nat) (v2 : Int32) (v3 : Int32) (v4 : Int32) (res : HP) : (HP × Int32) → Prop := fun s => Fx q_Cu_takeStart 5 sh 11 [some (.ref c), some (.ref v1), some (.int v2), some (.int v3), some (.int v4), some (.int s.2), none] [] s.1 none res
set_option maxHeartbeats 4000000 in
set_option maxRecDepth 20000 in
theorem t_Cu_takeStart_j115 (sh : Shp) (c : Nat) (hS : S_Cu sh c) (hp : HP) (v1 : Nat) (hv1 : S_St sh v1) (v2 : Int32) (v3 : Int32)  (res : HP) (t : HP) (hf : f_Cu_takeStart_j115 c hp v1 v2 v3  = some t) (hk : (fun v => v = res) t) : Fx q_Cu_takeStart 5 sh 115 [some (.ref c), some (.ref v1), some (.int v2), some (.int v3), none, none, none] [] hp none res := by
  unfold f_Cu_takeStart_j115 at hf
  refine Fx.run [(.aload_n 1, 1, 1, 0, .null), (.iload_n 2, 1, 2, 0, .null)] 117 (by decide +kernel) ?_
  show Fx q_Cu_takeStart 5 sh 117 [some (.ref c), some (.ref v1), some (.int v2), some (.int v3), none, none, none] [.int v2, .ref v1] hp none res
  replace hf := bnd hf
  obtain ⟨r5, hr5, hf⟩ := hf
  refine Fx.callV (rr := (some (.ref r5))) (hp1 := hp) [.int v2] [] lk_1_64 (by decide +kernel) (t_St_rowsOf sh v1 (hv1) hp v2 r5 hr5) ⟨Nat.le_of_ble_eq_true rfl, Nat.le_of_ble_eq_true rfl⟩ (hv1).1 (by decide) rfl (Nat.le_of_ble_eq_true rfl) ?_
  show Fx q_Cu_takeStart 5 sh 120 [some (.ref c), some (.ref v1), some (.int v2), some (.int v3), none, none, none] [.ref r5] hp none res
  refine Fx.run [(.astore 5, 2, 5, 0, .null), (.aload 5, 2, 5, 0, .null), (.iload_n 3, 1, 3, 0, .null)] 125 (by decide +kernel) ?_
  show Fx q_Cu_takeStart 5 sh 125 [some (.ref c), some (.ref v1), some (.int v2), some (.int v3), none, some (.ref r5), none] [.int v3, .ref r5] hp none res
  replace hf := bnd hf
  obtain ⟨r6, hr6, hf⟩ := hf
  refine Fx.callV (rr := (some (.int r6))) (hp1 := hp) [.int v3] [] lk_1_133 (by decide +kernel) (t_Ro_has sh r5 ((rowsOf_S hv1 hr5)) hp v3 r6 hr6) ⟨Nat.le_of_ble_eq_true rfl, Nat.le_of_ble_eq_true rfl⟩ ((rowsOf_S hv1 hr5)).1 (by decide) rfl (Nat.le_of_ble_eq_true rfl) ?_
  show Fx q_Cu_takeStart 5 sh 128 [some (.ref c), some (.ref v1), some (.int v2), some (.int v3), none, some (.ref r5), none] [.int r6] hp none res
  refine Fx.if_eq (44) 172 131 (by decide +kernel) (fun b7 => ?_) (fun b7 => ?_)
  · replace hf := ifp b7 hf
    obtain rfl := Option.some.inj hf
    have hk : hp = res := hk
    subst hk
    exact Fx.vret (by decide +kernel) rfl
  · replace hf := ifn b7 hf
    replace hf := gd hf
    obtain ⟨g8, hf⟩ := hf
    refine Fx.run [(.aload 5, 2, 5, 0, .null), (.getfield 137, 3, 4, 0, .ref 1), (.iload_n 3, 1, 3, 0, .null), (.iaload, 1, 40, 0, .null)] 138 (by decide +kernel) ?_
    show isK sh r5 4 ∧ (isA sh (r5 + 1) 10 40 ∧ inb v3 40) ∧ Fx q_Cu_takeStart 5 sh 138 [some (.ref c), some (.ref v1), some (.int v2), some (.int v3), none, some (.ref r5), none] [.int (hp.1 (r5 + 1) (ix v3))] hp none res
    refine ⟨(rowsOf_S hv1 hr5).1, ⟨(rowsOf_S hv1 hr5).2.1, g8⟩, ?_⟩
    refine Fx.if_lt (34) 172 141 (by decide +kernel) (fun b9 => ?_) (fun b9 => ?_)
    · replace hf := ifp b9 hf
      obtain rfl := Option.some.inj hf
      have hk : hp = res := hk
      subst hk
      exact Fx.vret (by decide +kernel) rfl
    · replace hf := ifn b9 hf
      replace hf := gd hf
      obtain ⟨g10, hf⟩ := hf
      refine Fx.run [(.aload 5, 2, 5, 0, .null), (.getfield 137, 3, 4, 0, .ref 1), (.iload_n 3, 1, 3, 0, .null), (.iaload, 1, 40, 0, .null), (.iconst 4, 1, 0, 0, .int 4)] 149 (by decide +kernel) ?_
      show isK sh r5 4 ∧ (isA sh (r5 + 1) 10 40 ∧ inb v3 40) ∧ Fx q_Cu_takeStart 5 sh 149 [some (.ref c), some (.ref v1), some (.int v2), some (.int v3), none, some (.ref r5), none] [.int 4, .int (hp.1 (r5 + 1) (ix v3))] hp none res
      refine ⟨(rowsOf_S hv1 hr5).1, ⟨(rowsOf_S hv1 hr5).2.1, g10⟩, ?_⟩
      refine Fx.icmp_ge (23) 172 152 (by decide +kernel) (fun b11 => ?_) (fun b11 => ?_)
      · replace hf := ifp b11 hf
        obtain rfl := Option.some.inj hf
        have hk : hp = res := hk
        subst hk
        exact Fx.vret (by decide +kernel) rfl
      · replace hf := ifn b11 hf
        replace hf := gd hf
        obtain ⟨g12, hf⟩ := hf
        replace hf := gd hf
        obtain ⟨g13, hf⟩ := hf
        replace hf := gd hf
        obtain ⟨g14, hf⟩ := hf
        refine Fx.run [(.aload_n 0, 1, 0, 0, .null), (.getfield 21, 3, 1, 6, .ref 4), (.iload_n 2, 1, 2, 0, .null), (.iconst 4, 1, 0, 0, .int 4), (.imul, 1, 0, 0, .null), (.aload 5, 2, 5, 0, .null), (.getfield 137, 3, 4, 0, .ref 1), (.iload_n 3, 1, 3, 0, .null), (.iaload, 1, 40, 0, .null), (.iadd, 1, 0, 0, .null), (.dup2, 1, 0, 0, .null), (.iaload, 1, 8, 0, .null), (.iconst 1, 1, 0, 0, .int 1), (.isub, 1, 0, 0, .null), (.iastore, 1, 8, 0, .null)] 172 (by decide +kernel) ?_
        show isK sh c 1 ∧ isK sh r5 4 ∧ (isA sh (r5 + 1) 10 40 ∧ inb v3 40) ∧ (isA sh (c + 4) 10 8 ∧ inb ((v2 * 4) + (hp.1 (r5 + 1) (ix v3))) 8) ∧ (isA sh (c + 4) 10 8 ∧ inb ((v2 * 4) + (hp.1 (r5 + 1) (ix v3))) 8) ∧ Fx q_Cu_takeStart 5 sh 172 [some (.ref c), some (.ref v1), some (.int v2), some (.int v3), none, some (.ref r5), none] [] (upI hp (c + 4) (ix ((v2 * 4) + (hp.1 (r5 + 1) (ix v3)))) ((hp.1 (c + 4) (ix ((v2 * 4) + (hp.1 (r5 + 1) (ix v3))))) - 1)) none res
        refine ⟨hS.1, (rowsOf_S hv1 hr5).1, ⟨(rowsOf_S hv1 hr5).2.1, g12⟩, ⟨hS.2.2.2.2.1, g13⟩, ⟨hS.2.2.2.2.1, g14⟩, ?_⟩
        obtain rfl := Option.some.inj hf
        have hk : (upI hp (c + 4) (ix ((v2 * 4) + (hp.1 (r5 + 1) (ix v3)))) ((hp.1 (c + 4) (ix ((v2 * 4) + (hp.1 (r5 + 1) (ix v3))))) - 1)) = res := hk
        subst hk
        exact Fx.vret (by decide +kernel) rfl
set_option maxHeartbeats 4000000 in
set_option maxRecDepth 20000 in
theorem t_Cu_takeStart_j68 (sh : Shp) (c : Nat) (hS : S_Cu sh c) (hp : HP) (v1 : Nat) (hv1 : S_St sh v1) (v2 : Int32) (v3 : Int32) (v4 : Int32) (v5 : Int32) (s0 : Int32) (s1 : Int32) (s2 : Nat) (hs2 : S_Cu sh s2) (res : HP) (t : ((HP × Int32) ⊕ HP)) (hf : f_Cu_takeStart_j68 c hp v1 v2 v3 v4 v5 s0 s1 s2 = some t) (hk : (Kel (P_Cu_takeStart_11 sh c v1 v2 v3 v4 res) (fun v => v = res)) t) : Fx q_Cu_takeStart 5 sh 68 [some (.ref c), some (.ref v1), some (.int v2), some (.int v3), some (.int v4), some (.int v5), none] [.int s0, .int s1, .ref s2] hp none res := by
  unfold f_Cu_takeStart_j68 at hf
  replace hf := bnd hf
  obtain ⟨h25, hr24, hf⟩ := hf
  refine Fx.callV (rr := none) (hp1 := h25) [.int s1, .int s0] [] lk_1_130 (by decide +kernel) (t_Cu_putPair sh s2 (hs2) hp s1 s0 h25 hr24) ⟨Nat.le_of_ble_eq_true rfl, Nat.le_of_ble_eq_true rfl⟩ (hs2).1 (by decide) rfl (Nat.le_of_ble_eq_true rfl) ?_
  show Fx q_Cu_takeStart 5 sh 71 [some (.ref c), some (.ref v1), some (.int v2), some (.int v3), some (.int v4), some (.int v5), none] [] h25 none res
  refine Fx.run [(.iinc 5 1, 3, 5, 0, .int 1)] 74 (by decide +kernel) ?_
  show Fx q_Cu_takeStart 5 sh 74 [some (.ref c), some (.ref v1), some (.int v2), some (.int v3), some (.int v4), some (.int (v5 + 1)), none] [] h25 none res
  refine Fx.goto (-63) 11 (by decide +kernel) ?_
  obtain rfl := Option.some.inj hf
  have hk : Fx q_Cu_takeStart 5 sh 11 [some (.ref c), some (.ref v1), some (.int v2), some (.int v3), some (.int v4), some (.int (v5 + 1)), none] [] h25 none res := hk
  exact Fx.le hk (And.intro rfl (And.intro rfl (And.intro rfl (And.intro rfl (And.intro rfl (And.intro rfl trivial))))))
set_option maxHeartbeats 4000000 in
set_option maxRecDepth 20000 in
theorem t_Cu_takeStart_j58 (sh : Shp) (c : Nat) (hS : S_Cu sh c) (hp : HP) (v1 : Nat) (hv1 : S_St sh v1) (v2 : Int32) (v3 : Int32) (v4 : Int32) (v5 : Int32) (v6 : Int32) (s0 : Int32) (s1 : Nat) (hs1 : S_Cu sh s1) (res : HP) (t : ((HP × Int32) ⊕ HP)) (hf : f_Cu_takeStart_j58 c hp v1 v2 v3 v4 v5 v6 s0 s1 = some t) (hk : (Kel (P_Cu_takeStart_11 sh c v1 v2 v3 v4 res) (fun v => v = res)) t) : Fx q_Cu_takeStart 5 sh 58 [some (.ref c), some (.ref v1), some (.int v2), some (.int v3), some (.int v4), some (.int v5), some (.int v6)] [.int s0, .ref s1] hp none res := by
  unfold f_Cu_takeStart_j58 at hf
  refine Fx.run [(.iload_n 2, 1, 2, 0, .null)] 59 (by decide +kernel) ?_
  show Fx q_Cu_takeStart 5 sh 59 [some (.ref c), some (.ref v1), some (.int v2), some (.int v3), some (.int v4), some (.int v5), some (.int v6)] [.int v2, .int s0, .ref s1] hp none res
  refine Fx.if_ne (8) 67 62 (by decide +kernel) (fun b23 => ?_) (fun b23 => ?_)
  · replace hf := ifn b23 hf
    refine Fx.run [(.iload_n 3, 1, 3, 0, .null)] 68 (by decide +kernel) ?_
    show Fx q_Cu_takeStart 5 sh 68 [some (.ref c), some (.ref v1), some (.int v2), some (.int v3), some (.int v4), some (.int v5), some (.int v6)] [.int v3, .int s0, .ref s1] hp none res
    have hl := t_Cu_takeStart_j68 sh c hS hp v1 (hv1) v2 v3 v4 v5 v3 s0 s1 (hs1) res _ hf hk
    exact Fx.le hl (And.intro rfl (And.intro rfl (And.intro rfl (And.intro rfl (And.intro rfl (And.intro rfl trivial))))))
  · replace hf := ifp b23 hf
    refine Fx.run [(.iload 6, 2, 6, 0, .null)] 64 (by decide +kernel) ?_
    show Fx q_Cu_takeStart 5 sh 64 [some (.ref c), some (.ref v1), some (.int v2), some (.int v3), some (.int v4), some (.int v5), some (.int v6)] [.int v6, .int s0, .ref s1] hp none res
    refine Fx.goto (4) 68 (by decide +kernel) ?_
    have hl := t_Cu_takeStart_j68 sh c hS hp v1 (hv1) v2 v3 v4 v5 v6 s0 s1 (hs1) res _ hf hk
    exact Fx.le hl (And.intro rfl (And.intro rfl (And.intro rfl (And.intro rfl (And.intro rfl (And.intro rfl trivial))))))
set_option maxHeartbeats 4000000 in
set_option maxRecDepth 20000 in
theorem t_Cu_takeStart_l11 (sh : Shp) (c : Nat) (hS : S_Cu sh c) (hp : HP) (v1 : Nat) (hv1 : S_St sh v1) (v2 : Int32) (v3 : Int32) (v4 : Int32) (res : HP) : ∀ (s : (HP × Int32)) (t : HP), f_Cu_takeStart_l11 c hp v1 v2 v3 v4 s = some t → (fun v => v = res) t → P_Cu_takeStart_11 sh c v1 v2 v3 v4 res s := by
  refine loop_ind (P_Cu_takeStart_11 sh c v1 v2 v3 v4 res) (fun v => v = res) ?_
  intro s t hf hk
  obtain ⟨hp, v5⟩ := s
  replace hf : f_Cu_takeStart_b11 c hp v1 v2 v3 v4 v5 = some t := hf
  show Fx q_Cu_takeStart 5 sh 11 [some (.ref c), some (.ref v1), some (.int v2), some (.int v3), some (.int v4), some (.int v5), none] [] hp none res
  unfold f_Cu_takeStart_b11 at hf
  replace hf := gd hf
  obtain ⟨g1, hf⟩ := hf
  refine Fx.run [(.iload 5, 2, 5, 0, .null), (.aload_n 0, 1, 0, 0, .null), (.getfield 18, 3, 1, 5, .ref 3), (.iconst 1, 1, 0, 0, .int 1), (.iload_n 2, 1, 2, 0, .null), (.isub, 1, 0, 0, .null), (.iaload, 1, 2, 0, .null)] 21 (by decide +kernel) ?_
  show isK sh c 1 ∧ (isA sh (c + 3) 10 2 ∧ inb (1 - v2) 2) ∧ Fx q_Cu_takeStart 5 sh 21 [some (.ref c), some (.ref v1), some (.int v2), some (.int v3), some (.int v4), some (.int v5), none] [.int (hp.1 (c + 3) (ix (1 - v2))), .int v5] hp none res
  refine ⟨hS.1, ⟨hS.2.2.2.1, g1⟩, ?_⟩
  refine Fx.icmp_ge (56) 77 24 (by decide +kernel) (fun b2 => ?_) (fun b2 => ?_)
  · replace hf := ifp b2 hf
    replace hf := mpd hf
    obtain ⟨t, hf, rfl⟩ := hf
    replace hf := gd hf
    obtain ⟨g3, hf⟩ := hf
    refine Fx.run [(.aload_n 0, 1, 0, 0, .null), (.getfield 18, 3, 1, 5, .ref 3), (.iload_n 2, 1, 2, 0, .null), (.iaload, 1, 2, 0, .null), (.bipush 40, 2, 0, 0, .int 40)] 85 (by decide +kernel) ?_
    show isK sh c 1 ∧ (isA sh (c + 3) 10 2 ∧ inb v2 2) ∧ Fx q_Cu_takeStart 5 sh 85 [some (.ref c), some (.ref v1), some (.int v2), some (.int v3), some (.int v4), some (.int v5), none] [.int 40, .int (hp.1 (c + 3) (ix v2))] hp none res
    refine ⟨hS.1, ⟨hS.2.2.2.1, g3⟩, ?_⟩
    refine Fx.icmp_ge (30) 115 88 (by decide +kernel) (fun b4 => ?_) (fun b4 => ?_)
    · replace hf := ifp b4 hf
      have hl := t_Cu_takeStart_j115 sh c hS hp v1 (hv1) v2 v3  res _ hf hk
      exact Fx.le hl (And.intro rfl (And.intro rfl (And.intro rfl (And.intro rfl trivial))))
    · replace hf := ifn b4 hf
      replace hf := gd hf
      obtain ⟨g15, hf⟩ := hf
      replace hf := gd hf
      obtain ⟨g16, hf⟩ := hf
      replace hf := gd hf
      obtain ⟨g17, hf⟩ := hf
      replace hf := gd hf
      obtain ⟨g18, hf⟩ := hf
      refine Fx.run [(.aload_n 0, 1, 0, 0, .null), (.getfield 15, 3, 1, 4, .ref 2), (.iload_n 2, 1, 2, 0, .null), (.bipush 40, 2, 0, 0, .int 40), (.imul, 1, 0, 0, .null), (.aload_n 0, 1, 0, 0, .null), (.getfield 18, 3, 1, 5, .ref 3), (.iload_n 2, 1, 2, 0, .null), (.iaload, 1, 2, 0, .null), (.iadd, 1, 0, 0, .null), (.iload_n 3, 1, 3, 0, .null), (.iastore, 1, 80, 0, .null), (.aload_n 0, 1, 0, 0, .null), (.getfield 18, 3, 1, 5, .ref 3), (.iload_n 2, 1, 2, 0, .null), (.dup2, 1, 0, 0, .null), (.iaload, 1, 2, 0, .null), (.iconst 1, 1, 0, 0, .int 1), (.iadd, 1, 0, 0, .null), (.iastore, 1, 2, 0, .null)] 115 (by decide +kernel) ?_
      show isK sh c 1 ∧ isK sh c 1 ∧ (isA sh (c + 3) 10 2 ∧ inb v2 2) ∧ (isA sh (c + 2) 10 80 ∧ inb ((v2 * 40) + (hp.1 (c + 3) (ix v2))) 80) ∧ isK sh c 1 ∧ (isA sh (c + 3) 10 2 ∧ inb v2 2) ∧ (isA sh (c + 3) 10 2 ∧ inb v2 2) ∧ Fx q_Cu_takeStart 5 sh 115 [some (.ref c), some (.ref v1), some (.int v2), some (.int v3), some (.int v4), some (.int v5), none] [] (upI (upI hp (c + 2) (ix ((v2 * 40) + (hp.1 (c + 3) (ix v2)))) v3) (c + 3) (ix v2) (((upI hp (c + 2) (ix ((v2 * 40) + (hp.1 (c + 3) (ix v2)))) v3).1 (c + 3) (ix v2)) + 1)) none res
      refine ⟨hS.1, hS.1, ⟨hS.2.2.2.1, g15⟩, ⟨hS.2.2.1, g16⟩, hS.1, ⟨hS.2.2.2.1, g17⟩, ⟨hS.2.2.2.1, g18⟩, ?_⟩
      have hl := t_Cu_takeStart_j115 sh c hS (upI (upI hp (c + 2) (ix ((v2 * 40) + (hp.1 (c + 3) (ix v2)))) v3) (c + 3) (ix v2) (((upI hp (c + 2) (ix ((v2 * 40) + (hp.1 (c + 3) (ix v2)))) v3).1 (c + 3) (ix v2)) + 1)) v1 (hv1) v2 v3  res _ hf hk
      exact Fx.le hl (And.intro rfl (And.intro rfl (And.intro rfl (And.intro rfl trivial))))
  · replace hf := ifn b2 hf
    replace hf := gd hf
    obtain ⟨g19, hf⟩ := hf
    refine Fx.run [(.aload_n 0, 1, 0, 0, .null), (.getfield 15, 3, 1, 4, .ref 2), (.iload 4, 2, 4, 0, .null), (.iload 5, 2, 5, 0, .null), (.iadd, 1, 0, 0, .null), (.iaload, 1, 80, 0, .null), (.istore 6, 2, 6, 0, .null), (.aload_n 1, 1, 1, 0, .null), (.iload_n 2, 1, 2, 0, .null), (.iload_n 3, 1, 3, 0, .null), (.iload 6, 2, 6, 0, .null)] 41 (by decide +kernel) ?_
    show isK sh c 1 ∧ (isA sh (c + 2) 10 80 ∧ inb (v4 + v5) 80) ∧ Fx q_Cu_takeStart 5 sh 41 [some (.ref c), some (.ref v1), some (.int v2), some (.int v3), some (.int v4), some (.int v5), some (.int (hp.1 (c + 2) (ix (v4 + v5))))] [.int (hp.1 (c + 2) (ix (v4 + v5))), .int v3, .int v2, .ref v1] hp none res
    refine ⟨hS.1, ⟨hS.2.2.1, g19⟩, ?_⟩
    replace hf := bnd hf
    obtain ⟨r20, hr20, hf⟩ := hf
    refine Fx.callV (rr := (some (.int r20))) (hp1 := hp) [.int v2, .int v3, .int (hp.1 (c + 2) (ix (v4 + v5)))] [] lk_1_126 (by decide +kernel) (t_St_arePartners sh v1 (hv1) hp v2 v3 (hp.1 (c + 2) (ix (v4 + v5))) r20 hr20) ⟨Nat.le_of_ble_eq_true rfl, Nat.le_of_ble_eq_true rfl⟩ (hv1).1 (by decide) rfl (Nat.le_of_ble_eq_true rfl) ?_
    show Fx q_Cu_takeStart 5 sh 44 [some (.ref c), some (.ref v1), some (.int v2), some (.int v3), some (.int v4), some (.int v5), some (.int (hp.1 (c + 2) (ix (v4 + v5))))] [.int r20] hp none res
    refine Fx.if_eq (27) 71 47 (by decide +kernel) (fun b21 => ?_) (fun b21 => ?_)
    · replace hf := ifp b21 hf
      refine Fx.run [(.iinc 5 1, 3, 5, 0, .int 1)] 74 (by decide +kernel) ?_
      show Fx q_Cu_takeStart 5 sh 74 [some (.ref c), some (.ref v1), some (.int v2), some (.int v3), some (.int v4), some (.int (v5 + 1)), some (.int (hp.1 (c + 2) (ix (v4 + v5))))] [] hp none res
      refine Fx.goto (-63) 11 (by decide +kernel) ?_
      obtain rfl := Option.some.inj hf
      have hk : Fx q_Cu_takeStart 5 sh 11 [some (.ref c), some (.ref v1), some (.int v2), some (.int v3), some (.int v4), some (.int (v5 + 1)), none] [] hp none res := hk
      exact Fx.le hk (And.intro rfl (And.intro rfl (And.intro rfl (And.intro rfl (And.intro rfl (And.intro rfl trivial))))))
    · replace hf := ifn b21 hf
      refine Fx.run [(.aload_n 0, 1, 0, 0, .null), (.iload_n 2, 1, 2, 0, .null)] 49 (by decide +kernel) ?_
      show Fx q_Cu_takeStart 5 sh 49 [some (.ref c), some (.ref v1), some (.int v2), some (.int v3), some (.int v4), some (.int v5), some (.int (hp.1 (c + 2) (ix (v4 + v5))))] [.int v2, .ref c] hp none res
      refine Fx.if_ne (7) 56 52 (by decide +kernel) (fun b22 => ?_) (fun b22 => ?_)
      · replace hf := ifn b22 hf
        refine Fx.run [(.iload 6, 2, 6, 0, .null)] 58 (by decide +kernel) ?_
        show Fx q_Cu_takeStart 5 sh 58 [some (.ref c), some (.ref v1), some (.int v2), some (.int v3), some (.int v4), some (.int v5), some (.int (hp.1 (c + 2) (ix (v4 + v5))))] [.int (hp.1 (c + 2) (ix (v4 + v5))), .ref c] hp none res
        have hl := t_Cu_takeStart_j58 sh c hS hp v1 (hv1) v2 v3 v4 v5 (hp.1 (c + 2) (ix (v4 + v5))) (hp.1 (c + 2) (ix (v4 + v5))) c (hS) res _ hf hk
        exact Fx.le hl (And.intro rfl (And.intro rfl (And.intro rfl (And.intro rfl (And.intro rfl (And.intro rfl (And.intro rfl trivial)))))))
      · replace hf := ifp b22 hf
        refine Fx.run [(.iload_n 3, 1, 3, 0, .null)] 53 (by decide +kernel) ?_
        show Fx q_Cu_takeStart 5 sh 53 [some (.ref c), some (.ref v1), some (.int v2), some (.int v3), some (.int v4), some (.int v5), some (.int (hp.1 (c + 2) (ix (v4 + v5))))] [.int v3, .ref c] hp none res
        refine Fx.goto (5) 58 (by decide +kernel) ?_
        have hl := t_Cu_takeStart_j58 sh c hS hp v1 (hv1) v2 v3 v4 v5 (hp.1 (c + 2) (ix (v4 + v5))) v3 c (hS) res _ hf hk
        exact Fx.le hl (And.intro rfl (And.intro rfl (And.intro rfl (And.intro rfl (And.intro rfl (And.intro rfl (And.intro rfl trivial)))))))
set_option maxHeartbeats 4000000 in
set_option maxRecDepth 20000 in
theorem t_Cu_takeStart (sh : Shp) (c : Nat) (hS : S_Cu sh c) (hp : HP) (v1 : Nat) (hv1 : S_St sh v1) (v2 : Int32) (v3 : Int32) (res : HP) (hf : f_Cu_takeStart c hp v1 v2 v3 = some res) : Ex 5 q_Cu_takeStart sh [.ref c, .ref v1, .int v2, .int v3] hp none res := by
  refine Ex.of [some (.ref c), some (.ref v1), some (.int v2), some (.int v3), none, none, none] rfl (Nat.le_of_ble_eq_true rfl) (by decide +kernel) rfl ?_
  obtain ⟨t, hk⟩ : ∃ t, t = res := ⟨res, rfl⟩
  rw [← hk] at hf
  unfold f_Cu_takeStart at hf
  refine Fx.run [(.iconst 1, 1, 0, 0, .int 1), (.iload_n 2, 1, 2, 0, .null), (.isub, 1, 0, 0, .null), (.bipush 40, 2, 0, 0, .int 40), (.imul, 1, 0, 0, .null), (.istore 4, 2, 4, 0, .null), (.iconst 0, 1, 0, 0, .int 0), (.istore 5, 2, 5, 0, .null)] 11 (by decide +kernel) ?_
  show Fx q_Cu_takeStart 5 sh 11 [some (.ref c), some (.ref v1), some (.int v2), some (.int v3), some (.int ((1 - v2) * 40)), some (.int 0), none] [] hp none res
  have hl := t_Cu_takeStart_l11 sh c hS hp v1 (hv1) v2 v3 ((1 - v2) * 40) res (hp, 0) _ hf hk
  have hl : Fx q_Cu_takeStart 5 sh 11 [some (.ref c), some (.ref v1), some (.int v2), some (.int v3), some (.int ((1 - v2) * 40)), some (.int 0), none] [] hp none res := hl
  exact Fx.le hl (And.intro rfl (And.intro rfl (And.intro rfl (And.intro rfl (And.intro rfl (And.intro rfl trivial))))))
abbrev P_Cu_takeEnd_18 (sh : Shp) (c : Nat) (hp : HP) (v1 : Int32) (v2 : Int32) (v3 : Int32) (v4 : Int32) (res : HP) : (Int32) → Prop := fun s => Fx q_Cu_takeEnd 1 sh 18 [some (.ref c), some (.int v1), some (.int v2), some (.int v3), some (.int v4), some (.int s)] [] hp none res
set_option maxHeartbeats 4000000 in
set_option maxRecDepth 20000 in
theorem t_Cu_takeEnd_l18 (sh : Shp) (c : Nat) (hS : S_Cu sh c) (hp : HP) (v1 : Int32) (v2 : Int32) (v3 : Int32) (v4 : Int32) (res : HP) : ∀ (s : (Int32)) (t : HP), f_Cu_takeEnd_l18 c hp v1 v2 v3 v4 s = some t → (fun v => v = res) t → P_Cu_takeEnd_18 sh c hp v1 v2 v3 v4 res s := by
  refine loop_ind (P_Cu_takeEnd_18 sh c hp v1 v2 v3 v4 res) (fun v => v = res) ?_
  intro s t hf hk
  revert hf hk; revert s; intro v5 hf hk
  replace hf : f_Cu_takeEnd_b18 c hp v1 v2 v3 v4 v5 = some t := hf
  show Fx q_Cu_takeEnd 1 sh 18 [some (.ref c), some (.int v1), some (.int v2), some (.int v3), some (.int v4), some (.int v5)] [] hp none res
  unfold f_Cu_takeEnd_b18 at hf
  refine Fx.run [(.iload 5, 2, 5, 0, .null), (.iload 4, 2, 4, 0, .null)] 22 (by decide +kernel) ?_
  show Fx q_Cu_takeEnd 1 sh 22 [some (.ref c), some (.int v1), some (.int v2), some (.int v3), some (.int v4), some (.int v5)] [.int v4, .int v5] hp none res
  refine Fx.icmp_gt (66) 88 25 (by decide +kernel) (fun b2 => ?_) (fun b2 => ?_)
  · replace hf := ifp b2 hf
    replace hf := mpd hf
    obtain ⟨t, hf, rfl⟩ := hf
    obtain rfl := Option.some.inj hf
    have hk : hp = res := hk
    subst hk
    exact Fx.vret (by decide +kernel) rfl
  · replace hf := ifn b2 hf
    replace hf := gd hf
    obtain ⟨g3, hf⟩ := hf
    refine Fx.run [(.aload_n 0, 1, 0, 0, .null), (.getfield 15, 3, 1, 4, .ref 2), (.iload_n 3, 1, 3, 0, .null), (.iload 5, 2, 5, 0, .null), (.iadd, 1, 0, 0, .null), (.iaload, 1, 80, 0, .null), (.iload_n 2, 1, 2, 0, .null)] 35 (by decide +kernel) ?_
    show isK sh c 1 ∧ (isA sh (c + 2) 10 80 ∧ inb (v3 + v5) 80) ∧ Fx q_Cu_takeEnd 1 sh 35 [some (.ref c), some (.int v1), some (.int v2), some (.int v3), some (.int v4), some (.int v5)] [.int v2, .int (hp.1 (c + 2) (ix (v3 + v5)))] hp none res
    refine ⟨hS.1, ⟨hS.2.2.1, g3⟩, ?_⟩
    refine Fx.icmp_ne (47) 82 38 (by decide +kernel) (fun b4 => ?_) (fun b4 => ?_)
    · replace hf := ifn b4 hf
      refine Fx.run [(.iinc 5 1, 3, 5, 0, .int 1)] 85 (by decide +kernel) ?_
      show Fx q_Cu_takeEnd 1 sh 85 [some (.ref c), some (.int v1), some (.int v2), some (.int v3), some (.int v4), some (.int (v5 + 1))] [] hp none res
      refine Fx.goto (-67) 18 (by decide +kernel) ?_
      obtain rfl := Option.some.inj hf
      have hk : Fx q_Cu_takeEnd 1 sh 18 [some (.ref c), some (.int v1), some (.int v2), some (.int v3), some (.int v4), some (.int (v5 + 1))] [] hp none res := hk
      exact Fx.le hk (And.intro rfl (And.intro rfl (And.intro rfl (And.intro rfl (And.intro rfl (And.intro rfl trivial))))))
    · replace hf := ifp b4 hf
      replace hf := mpd hf
      obtain ⟨t, hf, rfl⟩ := hf
      refine Fx.run [(.iload 5, 2, 5, 0, .null), (.iload 4, 2, 4, 0, .null)] 42 (by decide +kernel) ?_
      show Fx q_Cu_takeEnd 1 sh 42 [some (.ref c), some (.int v1), some (.int v2), some (.int v3), some (.int v4), some (.int v5)] [.int v4, .int v5] hp none res
      refine Fx.icmp_ge (31) 73 45 (by decide +kernel) (fun b5 => ?_) (fun b5 => ?_)
      · replace hf := ifp b5 hf
        replace hf := gd hf
        obtain ⟨g6, hf⟩ := hf
        refine Fx.run [(.aload_n 0, 1, 0, 0, .null), (.getfield 18, 3, 1, 5, .ref 3), (.iload_n 1, 1, 1, 0, .null), (.iload 4, 2, 4, 0, .null), (.iastore, 1, 2, 0, .null)] 81 (by decide +kernel) ?_
        show isK sh c 1 ∧ (isA sh (c + 3) 10 2 ∧ inb v1 2) ∧ Fx q_Cu_takeEnd 1 sh 81 [some (.ref c), some (.int v1), some (.int v2), some (.int v3), some (.int v4), some (.int v5)] [] (upI hp (c + 3) (ix v1) v4) none res
        refine ⟨hS.1, ⟨hS.2.2.2.1, g6⟩, ?_⟩
        obtain rfl := Option.some.inj hf
        have hk : (upI hp (c + 3) (ix v1) v4) = res := hk
        subst hk
        exact Fx.vret (by decide +kernel) rfl
      · replace hf := ifn b5 hf
        replace hf := gd hf
        obtain ⟨g7, hf⟩ := hf
        replace hf := gd hf
        obtain ⟨g8, hf⟩ := hf
        replace hf := gd hf
        obtain ⟨g9, hf⟩ := hf
        refine Fx.run [(.aload_n 0, 1, 0, 0, .null), (.getfield 15, 3, 1, 4, .ref 2), (.iload_n 3, 1, 3, 0, .null), (.iload 5, 2, 5, 0, .null), (.iadd, 1, 0, 0, .null), (.aload_n 0, 1, 0, 0, .null), (.getfield 15, 3, 1, 4, .ref 2), (.iload_n 3, 1, 3, 0, .null), (.iload 4, 2, 4, 0, .null), (.iadd, 1, 0, 0, .null), (.iaload, 1, 80, 0, .null), (.iastore, 1, 80, 0, .null), (.aload_n 0, 1, 0, 0, .null), (.dup, 1, 0, 0, .null), (.getfield 53, 3, 1, 11, .null), (.iconst 1, 1, 0, 0, .int 1), (.iadd, 1, 0, 0, .null), (.putfield 53, 3, 1, 11, .null), (.aload_n 0, 1, 0, 0, .null), (.getfield 18, 3, 1, 5, .ref 3), (.iload_n 1, 1, 1, 0, .null), (.iload 4, 2, 4, 0, .null), (.iastore, 1, 2, 0, .null)] 81 (by decide +kernel) ?_
        show isK sh c 1 ∧ isK sh c 1 ∧ (isA sh (c + 2) 10 80 ∧ inb (v3 + v4) 80) ∧ (isA sh (c + 2) 10 80 ∧ inb (v3 + v5) 80) ∧ isK sh c 1 ∧ isK sh c 1 ∧ isK sh c 1 ∧ (isA sh (c + 3) 10 2 ∧ inb v1 2) ∧ Fx q_Cu_takeEnd 1 sh 81 [some (.ref c), some (.int v1), some (.int v2), some (.int v3), some (.int v4), some (.int v5)] [] (upI (upI (upI hp (c + 2) (ix (v3 + v5)) (hp.1 (c + 2) (ix (v3 + v4)))) c 11 (((upI hp (c + 2) (ix (v3 + v5)) (hp.1 (c + 2) (ix (v3 + v4)))).1 c 11) + 1)) (c + 3) (ix v1) v4) none res
        refine ⟨hS.1, hS.1, ⟨hS.2.2.1, g7⟩, ⟨hS.2.2.1, g8⟩, hS.1, hS.1, hS.1, ⟨hS.2.2.2.1, g9⟩, ?_⟩
        obtain rfl := Option.some.inj hf
        have hk : (upI (upI (upI hp (c + 2) (ix (v3 + v5)) (hp.1 (c + 2) (ix (v3 + v4)))) c 11 (((upI hp (c + 2) (ix (v3 + v5)) (hp.1 (c + 2) (ix (v3 + v4)))).1 c 11) + 1)) (c + 3) (ix v1) v4) = res := hk
        subst hk
        exact Fx.vret (by decide +kernel) rfl
set_option maxHeartbeats 4000000 in
set_option maxRecDepth 20000 in
theorem t_Cu_takeEnd (sh : Shp) (c : Nat) (hS : S_Cu sh c) (hp : HP) (v1 : Int32) (v2 : Int32) (res : HP) (hf : f_Cu_takeEnd c hp v1 v2 = some res) : Ex 1 q_Cu_takeEnd sh [.ref c, .int v1, .int v2] hp none res := by
  refine Ex.of [some (.ref c), some (.int v1), some (.int v2), none, none, none] rfl (Nat.le_of_ble_eq_true rfl) (by decide +kernel) rfl ?_
  obtain ⟨t, hk⟩ : ∃ t, t = res := ⟨res, rfl⟩
  rw [← hk] at hf
  unfold f_Cu_takeEnd at hf
  replace hf := gd hf
  obtain ⟨g1, hf⟩ := hf
  refine Fx.run [(.iload_n 1, 1, 1, 0, .null), (.bipush 40, 2, 0, 0, .int 40), (.imul, 1, 0, 0, .null), (.istore_n 3, 1, 3, 0, .null), (.aload_n 0, 1, 0, 0, .null), (.getfield 18, 3, 1, 5, .ref 3), (.iload_n 1, 1, 1, 0, .null), (.iaload, 1, 2, 0, .null), (.iconst 1, 1, 0, 0, .int 1), (.isub, 1, 0, 0, .null), (.istore 4, 2, 4, 0, .null), (.iconst 0, 1, 0, 0, .int 0), (.istore 5, 2, 5, 0, .null)] 18 (by decide +kernel) ?_
  show isK sh c 1 ∧ (isA sh (c + 3) 10 2 ∧ inb v1 2) ∧ Fx q_Cu_takeEnd 1 sh 18 [some (.ref c), some (.int v1), some (.int v2), some (.int (v1 * 40)), some (.int ((hp.1 (c + 3) (ix v1)) - 1)), some (.int 0)] [] hp none res
  refine ⟨hS.1, ⟨hS.2.2.2.1, g1⟩, ?_⟩
  have hl := t_Cu_takeEnd_l18 sh c hS hp v1 v2 (v1 * 40) ((hp.1 (c + 3) (ix v1)) - 1) res 0 _ hf hk
  have hl : Fx q_Cu_takeEnd 1 sh 18 [some (.ref c), some (.int v1), some (.int v2), some (.int (v1 * 40)), some (.int ((hp.1 (c + 3) (ix v1)) - 1)), some (.int 0)] [] hp none res := hl
  exact Fx.le hl (And.intro rfl (And.intro rfl (And.intro rfl (And.intro rfl (And.intro rfl (And.intro rfl trivial))))))
set_option maxHeartbeats 4000000 in
set_option maxRecDepth 20000 in
theorem t_Cu_takeEvent_j106 (sh : Shp) (c : Nat) (hS : S_Cu sh c) (hp : HP)  (s0 : Int32) (s1 : Nat) (hs1 : S_Cu sh s1) (res : HP) (t : HP) (hf : f_Cu_takeEvent_j106 c hp  s0 s1 = some t) (hk : (fun v => v = res) t) : Fx q_Cu_takeEvent 6 sh 106 [some (.ref c), none, none, none, none] [.int s0, .ref s1] hp none res := by
  unfold f_Cu_takeEvent_j106 at hf
  replace hf := gd hf
  obtain ⟨g7, hf⟩ := hf
  refine Fx.run [(.putfield 40, 3, 1, 3, .int 1), (.aload_n 0, 1, 0, 0, .null), (.aload_n 0, 1, 0, 0, .null), (.getfield 47, 3, 1, 9, .null), (.aload_n 0, 1, 0, 0, .null)] 115 (by decide +kernel) ?_
  show isK sh s1 1 ∧ (s0 = 0 ∨ s0 = 1) ∧ isK sh c 1 ∧ Fx q_Cu_takeEvent 6 sh 115 [some (.ref c), none, none, none, none] [.ref c, .int ((upI hp s1 3 s0).1 c 9), .ref c] (upI hp s1 3 s0) none res
  refine ⟨hs1.1, g7, hS.1, ?_⟩
  replace hf := bnd hf
  obtain ⟨r8, hr8, hf⟩ := hf
  refine Fx.callV (rr := (some (.int r8))) (hp1 := (upI hp s1 3 s0)) [] [.int ((upI hp s1 3 s0).1 c 9), .ref c] lk_1_107 (by decide +kernel) (t_Cu_held sh c (hS) (upI hp s1 3 s0) r8 hr8) ⟨Nat.le_of_ble_eq_true rfl, Nat.le_of_ble_eq_true rfl⟩ (hS).1 (by decide) rfl (Nat.le_of_ble_eq_true rfl) ?_
  show Fx q_Cu_takeEvent 6 sh 118 [some (.ref c), none, none, none, none] [.int r8, .int ((upI hp s1 3 s0).1 c 9), .ref c] (upI hp s1 3 s0) none res
  refine Fx.mmax lk_1_120 (by decide +kernel) (by decide) (Nat.le_of_ble_eq_true rfl) ?_
  show Fx q_Cu_takeEvent 6 sh 121 [some (.ref c), none, none, none, none] [.int (if ((upI hp s1 3 s0).1 c 9) < r8 then r8 else ((upI hp s1 3 s0).1 c 9)), .ref c] (upI hp s1 3 s0) none res
  refine Fx.run [(.putfield 47, 3, 1, 9, .null), (.aload_n 0, 1, 0, 0, .null), (.aload_n 0, 1, 0, 0, .null), (.getfield 50, 3, 1, 10, .null), (.aload_n 0, 1, 0, 0, .null)] 130 (by decide +kernel) ?_
  show isK sh c 1 ∧ isK sh c 1 ∧ Fx q_Cu_takeEvent 6 sh 130 [some (.ref c), none, none, none, none] [.ref c, .int ((upI (upI hp s1 3 s0) c 9 (if ((upI hp s1 3 s0).1 c 9) < r8 then r8 else ((upI hp s1 3 s0).1 c 9))).1 c 10), .ref c] (upI (upI hp s1 3 s0) c 9 (if ((upI hp s1 3 s0).1 c 9) < r8 then r8 else ((upI hp s1 3 s0).1 c 9))) none res
  refine ⟨hS.1, hS.1, ?_⟩
  replace hf := bnd hf
  obtain ⟨r9, hr9, hf⟩ := hf
  refine Fx.callV (rr := (some (.int r9))) (hp1 := (upI (upI hp s1 3 s0) c 9 (if ((upI hp s1 3 s0).1 c 9) < r8 then r8 else ((upI hp s1 3 s0).1 c 9)))) [] [.int ((upI (upI hp s1 3 s0) c 9 (if ((upI hp s1 3 s0).1 c 9) < r8 then r8 else ((upI hp s1 3 s0).1 c 9))).1 c 10), .ref c] lk_1_123 (by decide +kernel) (t_Cu_activeTogether sh c (hS) (upI (upI hp s1 3 s0) c 9 (if ((upI hp s1 3 s0).1 c 9) < r8 then r8 else ((upI hp s1 3 s0).1 c 9))) r9 hr9) ⟨Nat.le_of_ble_eq_true rfl, Nat.le_of_ble_eq_true rfl⟩ (hS).1 (by decide) rfl (Nat.le_of_ble_eq_true rfl) ?_
  show Fx q_Cu_takeEvent 6 sh 133 [some (.ref c), none, none, none, none] [.int r9, .int ((upI (upI hp s1 3 s0) c 9 (if ((upI hp s1 3 s0).1 c 9) < r8 then r8 else ((upI hp s1 3 s0).1 c 9))).1 c 10), .ref c] (upI (upI hp s1 3 s0) c 9 (if ((upI hp s1 3 s0).1 c 9) < r8 then r8 else ((upI hp s1 3 s0).1 c 9))) none res
  refine Fx.mmax lk_1_120 (by decide +kernel) (by decide) (Nat.le_of_ble_eq_true rfl) ?_
  show Fx q_Cu_takeEvent 6 sh 136 [some (.ref c), none, none, none, none] [.int (if ((upI (upI hp s1 3 s0) c 9 (if ((upI hp s1 3 s0).1 c 9) < r8 then r8 else ((upI hp s1 3 s0).1 c 9))).1 c 10) < r9 then r9 else ((upI (upI hp s1 3 s0) c 9 (if ((upI hp s1 3 s0).1 c 9) < r8 then r8 else ((upI hp s1 3 s0).1 c 9))).1 c 10)), .ref c] (upI (upI hp s1 3 s0) c 9 (if ((upI hp s1 3 s0).1 c 9) < r8 then r8 else ((upI hp s1 3 s0).1 c 9))) none res
  refine Fx.run [(.putfield 50, 3, 1, 10, .null)] 139 (by decide +kernel) ?_
  show isK sh c 1 ∧ Fx q_Cu_takeEvent 6 sh 139 [some (.ref c), none, none, none, none] [] (upI (upI (upI hp s1 3 s0) c 9 (if ((upI hp s1 3 s0).1 c 9) < r8 then r8 else ((upI hp s1 3 s0).1 c 9))) c 10 (if ((upI (upI hp s1 3 s0) c 9 (if ((upI hp s1 3 s0).1 c 9) < r8 then r8 else ((upI hp s1 3 s0).1 c 9))).1 c 10) < r9 then r9 else ((upI (upI hp s1 3 s0) c 9 (if ((upI hp s1 3 s0).1 c 9) < r8 then r8 else ((upI hp s1 3 s0).1 c 9))).1 c 10))) none res
  refine ⟨hS.1, ?_⟩
  obtain rfl := Option.some.inj hf
  have hk : (upI (upI (upI hp s1 3 s0) c 9 (if ((upI hp s1 3 s0).1 c 9) < r8 then r8 else ((upI hp s1 3 s0).1 c 9))) c 10 (if ((upI (upI hp s1 3 s0) c 9 (if ((upI hp s1 3 s0).1 c 9) < r8 then r8 else ((upI hp s1 3 s0).1 c 9))).1 c 10) < r9 then r9 else ((upI (upI hp s1 3 s0) c 9 (if ((upI hp s1 3 s0).1 c 9) < r8 then r8 else ((upI hp s1 3 s0).1 c 9))).1 c 10))) = res := hk
  subst hk
  exact Fx.vret (by decide +kernel) rfl
set_option maxHeartbeats 4000000 in
set_option maxRecDepth 20000 in
theorem t_Cu_takeEvent_j68 (sh : Shp) (c : Nat) (hS : S_Cu sh c) (hp : HP) (v2 : Int32)  (res : HP) (t : HP) (hf : f_Cu_takeEvent_j68 c hp v2  = some t) (hk : (fun v => v = res) t) : Fx q_Cu_takeEvent 6 sh 68 [some (.ref c), none, some (.int v2), none, none] [] hp none res := by
  unfold f_Cu_takeEvent_j68 at hf
  refine Fx.run [(.aload_n 0, 1, 0, 0, .null), (.iload_n 2, 1, 2, 0, .null), (.bipush 8, 2, 0, 0, .int 8), (.ishr, 1, 0, 0, .null), (.ldc 111, 2, 0, 0, .int 2000000), (.isub, 1, 0, 0, .null), (.putfield 56, 3, 1, 12, .null), (.aload_n 0, 1, 0, 0, .null), (.dup, 1, 0, 0, .null), (.getfield 37, 3, 1, 2, .null), (.iconst 1, 1, 0, 0, .int 1), (.iadd, 1, 0, 0, .null), (.putfield 37, 3, 1, 2, .null), (.aload_n 0, 1, 0, 0, .null), (.aload_n 0, 1, 0, 0, .null), (.getfield 37, 3, 1, 2, .null), (.aload_n 0, 1, 0, 0, .null), (.getfield 33, 3, 1, 1, .null)] 98 (by decide +kernel) ?_
  show isK sh c 1 ∧ isK sh c 1 ∧ isK sh c 1 ∧ isK sh c 1 ∧ isK sh c 1 ∧ Fx q_Cu_takeEvent 6 sh 98 [some (.ref c), none, some (.int v2), none, none] [.int ((upI (upI hp c 12 ((v2 >>> (8 &&& 31)) - 2000000)) c 2 (((upI hp c 12 ((v2 >>> (8 &&& 31)) - 2000000)).1 c 2) + 1)).1 c 1), .int ((upI (upI hp c 12 ((v2 >>> (8 &&& 31)) - 2000000)) c 2 (((upI hp c 12 ((v2 >>> (8 &&& 31)) - 2000000)).1 c 2) + 1)).1 c 2), .ref c] (upI (upI hp c 12 ((v2 >>> (8 &&& 31)) - 2000000)) c 2 (((upI hp c 12 ((v2 >>> (8 &&& 31)) - 2000000)).1 c 2) + 1)) none res
  refine ⟨hS.1, hS.1, hS.1, hS.1, hS.1, ?_⟩
  refine Fx.icmp_ge (7) 105 101 (by decide +kernel) (fun b6 => ?_) (fun b6 => ?_)
  · replace hf := ifp b6 hf
    refine Fx.run [(.iconst 0, 1, 0, 0, .int 0)] 106 (by decide +kernel) ?_
    show Fx q_Cu_takeEvent 6 sh 106 [some (.ref c), none, some (.int v2), none, none] [.int 0, .ref c] (upI (upI hp c 12 ((v2 >>> (8 &&& 31)) - 2000000)) c 2 (((upI hp c 12 ((v2 >>> (8 &&& 31)) - 2000000)).1 c 2) + 1)) none res
    have hl := t_Cu_takeEvent_j106 sh c hS (upI (upI hp c 12 ((v2 >>> (8 &&& 31)) - 2000000)) c 2 (((upI hp c 12 ((v2 >>> (8 &&& 31)) - 2000000)).1 c 2) + 1))  0 c (hS) res _ hf hk
    exact Fx.le hl (And.intro rfl trivial)
  · replace hf := ifn b6 hf
    refine Fx.run [(.iconst 1, 1, 0, 0, .int 1)] 102 (by decide +kernel) ?_
    show Fx q_Cu_takeEvent 6 sh 102 [some (.ref c), none, some (.int v2), none, none] [.int 1, .ref c] (upI (upI hp c 12 ((v2 >>> (8 &&& 31)) - 2000000)) c 2 (((upI hp c 12 ((v2 >>> (8 &&& 31)) - 2000000)).1 c 2) + 1)) none res
    refine Fx.goto (4) 106 (by decide +kernel) ?_
    have hl := t_Cu_takeEvent_j106 sh c hS (upI (upI hp c 12 ((v2 >>> (8 &&& 31)) - 2000000)) c 2 (((upI hp c 12 ((v2 >>> (8 &&& 31)) - 2000000)).1 c 2) + 1))  1 c (hS) res _ hf hk
    exact Fx.le hl (And.intro rfl trivial)
set_option maxHeartbeats 4000000 in
set_option maxRecDepth 20000 in
theorem t_Cu_takeEvent (sh : Shp) (c : Nat) (hS : S_Cu sh c) (hp : HP) (v1 : Nat) (hv1 : S_St sh v1) (res : HP) (hf : f_Cu_takeEvent c hp v1 = some res) : Ex 6 q_Cu_takeEvent sh [.ref c, .ref v1] hp none res := by
  refine Ex.of [some (.ref c), some (.ref v1), none, none, none] rfl (Nat.le_of_ble_eq_true rfl) (by decide +kernel) rfl ?_
  obtain ⟨t, hk⟩ : ∃ t, t = res := ⟨res, rfl⟩
  rw [← hk] at hf
  unfold f_Cu_takeEvent at hf
  refine Fx.run [(.aload_n 0, 1, 0, 0, .null), (.getfield 37, 3, 1, 2, .null), (.aload_n 0, 1, 0, 0, .null), (.getfield 33, 3, 1, 1, .null)] 8 (by decide +kernel) ?_
  show isK sh c 1 ∧ isK sh c 1 ∧ Fx q_Cu_takeEvent 6 sh 8 [some (.ref c), some (.ref v1), none, none, none] [.int (hp.1 c 1), .int (hp.1 c 2)] hp none res
  refine ⟨hS.1, hS.1, ?_⟩
  refine Fx.icmp_lt (9) 17 11 (by decide +kernel) (fun b1 => ?_) (fun b1 => ?_)
  · replace hf := ifp b1 hf
    replace hf := gd hf
    obtain ⟨g2, hf⟩ := hf
    refine Fx.run [(.aload_n 0, 1, 0, 0, .null), (.getfield 9, 3, 1, 0, .ref 1), (.aload_n 0, 1, 0, 0, .null), (.getfield 37, 3, 1, 2, .null), (.iaload, 1, 160, 0, .null), (.istore_n 2, 1, 2, 0, .null), (.iload_n 2, 1, 2, 0, .null), (.bipush 6, 2, 0, 0, .int 6), (.ishr, 1, 0, 0, .null), (.iconst 1, 1, 0, 0, .int 1), (.iand, 1, 0, 0, .null), (.istore_n 3, 1, 3, 0, .null), (.iload_n 2, 1, 2, 0, .null), (.bipush 63, 2, 0, 0, .int 63), (.iand, 1, 0, 0, .null), (.istore 4, 2, 4, 0, .null), (.iload_n 2, 1, 2, 0, .null), (.bipush 7, 2, 0, 0, .int 7), (.ishr, 1, 0, 0, .null), (.iconst 1, 1, 0, 0, .int 1), (.iand, 1, 0, 0, .null), (.iconst 1, 1, 0, 0, .int 1)] 47 (by decide +kernel) ?_
    show isK sh c 1 ∧ isK sh c 1 ∧ (isA sh (c + 1) 10 160 ∧ inb (hp.1 c 2) 160) ∧ Fx q_Cu_takeEvent 6 sh 47 [some (.ref c), some (.ref v1), some (.int (hp.1 (c + 1) (ix (hp.1 c 2)))), some (.int (((hp.1 (c + 1) (ix (hp.1 c 2))) >>> (6 &&& 31)) &&& 1)), some (.int ((hp.1 (c + 1) (ix (hp.1 c 2))) &&& 63))] [.int 1, .int (((hp.1 (c + 1) (ix (hp.1 c 2))) >>> (7 &&& 31)) &&& 1)] hp none res
    refine ⟨hS.1, hS.1, ⟨hS.2.1, g2⟩, ?_⟩
    refine Fx.icmp_ne (14) 61 50 (by decide +kernel) (fun b3 => ?_) (fun b3 => ?_)
    · replace hf := ifn b3 hf
      refine Fx.run [(.aload_n 0, 1, 0, 0, .null), (.iload_n 3, 1, 3, 0, .null), (.iload 4, 2, 4, 0, .null)] 65 (by decide +kernel) ?_
      show Fx q_Cu_takeEvent 6 sh 65 [some (.ref c), some (.ref v1), some (.int (hp.1 (c + 1) (ix (hp.1 c 2)))), some (.int (((hp.1 (c + 1) (ix (hp.1 c 2))) >>> (6 &&& 31)) &&& 1)), some (.int ((hp.1 (c + 1) (ix (hp.1 c 2))) &&& 63))] [.int ((hp.1 (c + 1) (ix (hp.1 c 2))) &&& 63), .int (((hp.1 (c + 1) (ix (hp.1 c 2))) >>> (6 &&& 31)) &&& 1), .ref c] hp none res
      replace hf := bnd hf
      obtain ⟨h5, hr4, hf⟩ := hf
      refine Fx.callV (rr := none) (hp1 := h5) [.int (((hp.1 (c + 1) (ix (hp.1 c 2))) >>> (6 &&& 31)) &&& 1), .int ((hp.1 (c + 1) (ix (hp.1 c 2))) &&& 63)] [] lk_1_116 (by decide +kernel) (t_Cu_takeEnd sh c (hS) hp (((hp.1 (c + 1) (ix (hp.1 c 2))) >>> (6 &&& 31)) &&& 1) ((hp.1 (c + 1) (ix (hp.1 c 2))) &&& 63) h5 hr4) ⟨Nat.le_of_ble_eq_true rfl, Nat.le_of_ble_eq_true rfl⟩ (hS).1 (by decide) rfl (Nat.le_of_ble_eq_true rfl) ?_
      show Fx q_Cu_takeEvent 6 sh 68 [some (.ref c), some (.ref v1), some (.int (hp.1 (c + 1) (ix (hp.1 c 2)))), some (.int (((hp.1 (c + 1) (ix (hp.1 c 2))) >>> (6 &&& 31)) &&& 1)), some (.int ((hp.1 (c + 1) (ix (hp.1 c 2))) &&& 63))] [] h5 none res
      have hl := t_Cu_takeEvent_j68 sh c hS h5 (hp.1 (c + 1) (ix (hp.1 c 2)))  res _ hf hk
      exact Fx.le hl (And.intro rfl (And.intro rfl trivial))
    · replace hf := ifp b3 hf
      refine Fx.run [(.aload_n 0, 1, 0, 0, .null), (.aload_n 1, 1, 1, 0, .null), (.iload_n 3, 1, 3, 0, .null), (.iload 4, 2, 4, 0, .null)] 55 (by decide +kernel) ?_
      show Fx q_Cu_takeEvent 6 sh 55 [some (.ref c), some (.ref v1), some (.int (hp.1 (c + 1) (ix (hp.1 c 2)))), some (.int (((hp.1 (c + 1) (ix (hp.1 c 2))) >>> (6 &&& 31)) &&& 1)), some (.int ((hp.1 (c + 1) (ix (hp.1 c 2))) &&& 63))] [.int ((hp.1 (c + 1) (ix (hp.1 c 2))) &&& 63), .int (((hp.1 (c + 1) (ix (hp.1 c 2))) >>> (6 &&& 31)) &&& 1), .ref v1, .ref c] hp none res
      replace hf := bnd hf
      obtain ⟨h11, hr10, hf⟩ := hf
      refine Fx.callV (rr := none) (hp1 := h11) [.ref v1, .int (((hp.1 (c + 1) (ix (hp.1 c 2))) >>> (6 &&& 31)) &&& 1), .int ((hp.1 (c + 1) (ix (hp.1 c 2))) &&& 63)] [] lk_1_112 (by decide +kernel) (t_Cu_takeStart sh c (hS) hp v1 (hv1) (((hp.1 (c + 1) (ix (hp.1 c 2))) >>> (6 &&& 31)) &&& 1) ((hp.1 (c + 1) (ix (hp.1 c 2))) &&& 63) h11 hr10) ⟨Nat.le_of_ble_eq_true rfl, Nat.le_of_ble_eq_true rfl⟩ (hS).1 (by decide) rfl (Nat.le_of_ble_eq_true rfl) ?_
      show Fx q_Cu_takeEvent 6 sh 58 [some (.ref c), some (.ref v1), some (.int (hp.1 (c + 1) (ix (hp.1 c 2)))), some (.int (((hp.1 (c + 1) (ix (hp.1 c 2))) >>> (6 &&& 31)) &&& 1)), some (.int ((hp.1 (c + 1) (ix (hp.1 c 2))) &&& 63))] [] h11 none res
      refine Fx.goto (10) 68 (by decide +kernel) ?_
      have hl := t_Cu_takeEvent_j68 sh c hS h11 (hp.1 (c + 1) (ix (hp.1 c 2)))  res _ hf hk
      exact Fx.le hl (And.intro rfl (And.intro rfl trivial))
  · replace hf := ifn b1 hf
    refine Fx.run [(.aload_n 0, 1, 0, 0, .null), (.iconst 0, 1, 0, 0, .int 0), (.putfield 40, 3, 1, 3, .int 1)] 16 (by decide +kernel) ?_
    show isK sh c 1 ∧ ((0 : Int32) = 0 ∨ (0 : Int32) = 1) ∧ Fx q_Cu_takeEvent 6 sh 16 [some (.ref c), some (.ref v1), none, none, none] [] (upI hp c 3 0) none res
    refine ⟨hS.1, (Or.inl rfl), ?_⟩
    obtain rfl := Option.some.inj hf
    have hk : (upI hp c 3 0) = res := hk
    subst hk
    exact Fx.vret (by decide +kernel) rfl
